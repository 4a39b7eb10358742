/** Promise 4: the bytes of every instruction, as another assembler for this hart writes them. */
final class InstructionTest {
    public static void main(String[] args) {
        testLong();
        testShort();
        testOthers();
        testPairs();
        testRegisterNames();
        Check.end();
    }

    /** Those of four bytes. */
    private static void testLong() {
        Check.word("add a0,a1,a2", "00c58533");
        Check.word("sub t0,t1,t2", "407302b3");
        Check.word("sll s2,s3,s4", "01499933");
        Check.word("slt x31,x30,x29", "01df2fb3");
        Check.word("sltu gp,tp,sp", "002231b3");
        Check.word("xor a3,a4,a5", "00f746b3");
        Check.word("srl zero,ra,fp", "0080d033");
        Check.word("sra s10,s11,t6", "41fddd33");
        Check.word("or t3,t4,t5", "01eeee33");
        Check.word("and s5,s6,s7", "017b7ab3");
        Check.word("mul a0,a1,a2", "02c58533");
        Check.word("mulh a0,a1,a2", "02c59533");
        Check.word("mulhsu a0,a1,a2", "02c5a533");
        Check.word("mulhu a0,a1,a2", "02c5b533");
        Check.word("div a0,a1,a2", "02c5c533");
        Check.word("divu a0,a1,a2", "02c5d533");
        Check.word("rem a0,a1,a2", "02c5e533");
        Check.word("remu a0,a1,a2", "02c5f533");
        Check.word("addi a0,a1,-2048", "80058513");
        Check.word("slti a0,a1,2047", "7ff5a513");
        Check.word("sltiu a0,a1,-1", "fff5b513");
        Check.word("xori a0,a1,1365", "5555c513");
        Check.word("ori a0,a1,-1366", "aaa5e513");
        Check.word("andi a0,a1,255", "0ff5f513");
        Check.word("slli a0,a1,31", "01f59513");
        Check.word("srli a0,a1,1", "0015d513");
        Check.word("srai a0,a1,17", "4115d513");
        Check.word("lb a0,-2048(a1)", "80058503");
        Check.word("lh a0,2047(a1)", "7ff59503");
        Check.word("lw a0,-4(sp)", "ffc12503");
        Check.word("lbu a0,0(a1)", "0005c503");
        Check.word("lhu a0,6(a1)", "0065d503");
        Check.word("jalr t0,-12(a1)", "ff4582e7");
        Check.word("sb a0,-2048(a1)", "80a58023");
        Check.word("sh a0,2047(a1)", "7ea59fa3");
        Check.word("sw a0,-20(sp)", "fea12623");
        Check.word("lui a0,1048575", "fffff537");
        Check.word("auipc a0,1", "00001517");
        Check.word("beq a0,a1,.-4096", "80b50063");
        Check.word("bne a0,a1,.+4094", "7eb51fe3");
        Check.word("blt a0,a1,.+2048", "00b540e3");
        Check.word("bge a0,a1,.-2", "feb55fe3");
        Check.word("bltu a0,a1,.+1364", "54b56a63");
        Check.word("bgeu a0,a1,.+2730", "2ab575e3");
        Check.word("jal t0,.-1048576", "800002ef");
        Check.word("jal t0,.+1048574", "7ffff2ef");
        Check.word("jal t0,.+699050", "2abaa2ef");
        Check.word("jal x0,.+2048", "0010006f");
        Check.word("sc.w a0,a1,(a2)", "18b6252f");
        Check.word("amoswap.w a0,a1,(a2)", "08b6252f");
        Check.word("amoadd.w a0,a1,(a2)", "00b6252f");
        Check.word("amoxor.w.aq a0,a1,(a2)", "24b6252f");
        Check.word("amoand.w.rl a0,a1,(a2)", "62b6252f");
        Check.word("amoor.w.aqrl a0,a1,(a2)", "46b6252f");
        Check.word("amomin.w a0,a1,(a2)", "80b6252f");
        Check.word("amomax.w.aq a0,a1,(a2)", "a4b6252f");
        Check.word("amominu.w.rl a0,a1,(a2)", "c2b6252f");
        Check.word("amomaxu.w.aqrl a0,a1,(a2)", "e6b6252f");
        Check.word("lr.w a0,(a2)", "1006252f");
        Check.word("lr.w.aq a0,(a2)", "1406252f");
        Check.word("sc.w.rl a0,a1,(a2)", "1ab6252f");
        Check.word("rdcycle a0", "c0002573");
        Check.word("rdtime a1", "c01025f3");
        Check.word("rdinstret a2", "c0202673");
        Check.word("rdcycleh a3", "c80026f3");
        Check.word("rdtimeh a4", "c8102773");
        Check.word("rdinstreth a5", "c82027f3");
        Check.word("fence", "0ff0000f");
        Check.word("fence.i", "0000100f");
        Check.word("ecall", "00000073");
        Check.word("ebreak", "00100073");
    }

    /** Those of two bytes. */
    private static void testShort() {
        Check.word("c.addi4spn s0,4", "0040");
        Check.word("c.addi4spn a5,1020", "1ffc");
        Check.word("c.addi4spn a0,360", "12a8");
        Check.word("c.lw s0,124(a5)", "5fe0");
        Check.word("c.lw a1,84(s1)", "48ec");
        Check.word("c.sw a1,40(s1)", "d48c");
        Check.word("c.nop", "0001");
        Check.word("c.addi t0,-32", "1281");
        Check.word("c.addi t0,31", "02fd");
        Check.word("c.jal .-2048", "3001");
        Check.word("c.jal .+1364", "2b91");
        Check.word("c.j .+2046", "affd");
        Check.word("c.j .+682", "a46d");
        Check.word("c.li t6,-1", "5ffd");
        Check.word("c.addi16sp -512", "7101");
        Check.word("c.addi16sp 496", "617d");
        Check.word("c.addi16sp 336", "6171");
        Check.word("c.lui t0,31", "62fd");
        Check.word("c.lui t0,-32", "7281");
        Check.word("c.srli s0,31", "807d");
        Check.word("c.srai a5,1", "8785");
        Check.word("c.andi a0,-32", "9901");
        Check.word("c.sub s0,a5", "8c1d");
        Check.word("c.xor s1,a4", "8cb9");
        Check.word("c.or a0,a3", "8d55");
        Check.word("c.and a1,a2", "8df1");
        Check.word("c.beqz s0,.-256", "d001");
        Check.word("c.bnez a5,.+254", "effd");
        Check.word("c.bnez a5,.+170", "e7cd");
        Check.word("c.slli t0,31", "02fe");
        Check.word("c.lwsp t0,252", "52fe");
        Check.word("c.lwsp t0,84", "42d6");
        Check.word("c.jr ra", "8082");
        Check.word("c.mv t0,t1", "829a");
        Check.word("c.ebreak", "9002");
        Check.word("c.jalr t0", "9282");
        Check.word("c.add t0,t1", "929a");
        Check.word("c.swsp t6,252", "dffe");
        Check.word("c.swsp zero,168", "d502");
    }

    /** Those that are short for others. */
    private static void testOthers() {
        Check.word("nop", "00000013");
        Check.word("mv a0,a1", "00058513");
        Check.word("not a0,a1", "fff5c513");
        Check.word("neg a0,a1", "40b00533");
        Check.word("seqz a0,a1", "0015b513");
        Check.word("snez a0,a1", "00b03533");
        Check.word("sltz a0,a1", "0005a533");
        Check.word("sgtz a0,a1", "00b02533");
        Check.word("jr a1", "00058067");
        Check.word("ret", "00008067");
        Check.word("jalr a1", "000580e7");
        Check.word("bgez t0,.+8", "0002d463");
        Check.word("bltz t0,.+8", "0002c463");
        Check.word("blez t0,.+8", "00505463");
        Check.word("bgtz t0,.+8", "00504463");
        Check.word("bgt t0,t1,.+8", "00534463");
        Check.word("ble t0,t1,.+8", "00535463");
        Check.word("bgtu t0,t1,.+8", "00536463");
        Check.word("bleu t0,t1,.+8", "00537463");
        Check.word("beqz t0,.+8", "00028463");
        Check.word("bnez t0,.+8", "00029463");
        Check.word("beqz s0,.+8", "c401");
        Check.word("bnez a5,.+8", "e781");
        Check.word("j .+8", "a021");
        Check.word("tail .+8", "a021");
        Check.word("call .+8", "2021");
        Check.word("jal .+8", "2021");
        Check.word("li a0,-32", "5501");
        Check.word("li a0,31", "457d");
        Check.word("li zero,5", "00500013");
        Check.word("li a0,32", "02000513");
        Check.word("li a0,-33", "fdf00513");
        Check.word("li a0,2047", "7ff00513");
        Check.word("li a0,-2048", "80000513");
        Check.word("li a0,4096", "00001537");
        Check.word("li a0,0x80000000", "80000537");
    }

    /** Those that become two instructions. */
    private static void testPairs() {
        Check.word("li a0, 0x12345678", "67850513" + "12345537");
        Check.word("li a0, 0xFFFFF800 - 1", "7ff50513" + "fffff537");
        Check.word("li zero, 2048", "80000013" + "00001037");
        Check.word("la a0, .", "00050513" + "00000517");
        Check.word("la a0, . + 0x12345FFF", "fff50513" + "12346517");
        Check.word("la t0, . - 1", "fff28293" + "00000297");
        Check.word("la t0, . + 2048", "80028293" + "00001297");
        Check.bytes("nop\nla a0, 0", "13000000" + "17050000" + "1305c5ff");
    }

    private static void testRegisterNames() {
        String[] names = ("zero ra sp gp tp t0 t1 t2 s0 s1 a0 a1 a2 a3 a4 a5 a6 a7"
                + " s2 s3 s4 s5 s6 s7 s8 s9 s10 s11 t3 t4 t5 t6").split(" ");
        Check.same("registers", names.length, 32);
        for (int i = 0; i < names.length; i++) {
            String due = String.format("%08x", 51 | i << 7 | i << 15 | i << 20);
            Check.word("add " + names[i] + ", x" + i + ", " + names[i], due);
        }
        Check.word("add fp, x8, s0", String.format("%08x", 51 | 8 << 7 | 8 << 15 | 8 << 20));
        Check.fault("jr x32", 3, 1);
        Check.fault("jr x01", 3, 1);
        Check.fault("jr s12", 3, 1);
        Check.fault("jr a8", 3, 1);
        Check.fault("jr t7", 3, 1);
        Check.fault("jr X1", 3, 1);
    }
}
