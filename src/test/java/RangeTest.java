/** Promise 4: what each instruction takes as its number, offset and registers. */
final class RangeTest {
    public static void main(String[] args) {
        testNumbers();
        testOffsets();
        testMultiples();
        testShortRegisters();
        testShapes();
        Check.end();
    }

    /** The ends of a range are taken, and what lies beside them is not. */
    private static void range(String before, String after, int low, int high, int step) {
        for (int value : new int[] {low, low + step, high - step, high}) {
            Check.fault(before + value + after, 0, 0);
        }
        for (int value : new int[] {low - step, high + step, Integer.MIN_VALUE, 0x7FFFFFF0}) {
            Check.fault("\n" + before + value + after, 10, 2);
        }
        if (step > 1) {
            Check.fault(before + (low + 1) + after, 10, 1);
            Check.fault(before + (high - 1) + after, 10, 1);
            Check.fault(before + (low + step / 2) + after, 10, 1);
        }
    }

    private static void testNumbers() {
        for (String name : "addi slti sltiu xori ori andi".split(" ")) {
            range(name + " a0, a1, ", "", -2048, 2047, 1);
        }
        for (String name : "slli srli srai".split(" ")) {
            range(name + " a0, a1, ", "", 0, 31, 1);
        }
        for (String name : "lb lh lw lbu lhu jalr sb sh sw".split(" ")) {
            range(name + " a0, ", "(a1)", -2048, 2047, 1);
        }
        range("lui a0, ", "", 0, 1048575, 1);
        range("auipc a0, ", "", 0, 1048575, 1);
        range("c.addi a0, ", "", -32, 31, 1);
        range("c.li a0, ", "", -32, 31, 1);
        range("c.andi a0, ", "", -32, 31, 1);
        range("c.lui a0, ", "", -32, 31, 1);
        range("c.srli a0, ", "", 0, 31, 1);
        range("c.srai a0, ", "", 0, 31, 1);
        range("c.slli a0, ", "", 0, 31, 1);
        Check.fault("c.lui a0, 0", 10, 1);
        Check.word("c.addi zero, 0", "0001");
        Check.word("c.li zero, 0", "4001");
        Check.word("c.lui zero, 1", "6005");
        Check.word("c.slli zero, 0", "0002");
    }

    private static void testOffsets() {
        range("c.j . + ", "", -2048, 2046, 2);
        range("c.jal . + ", "", -2048, 2046, 2);
        range("c.beqz a0, . + ", "", -256, 254, 2);
        range("c.bnez a0, . + ", "", -256, 254, 2);
        range("jal t0, . + ", "", -1048576, 1048574, 2);
        range("j . + ", "", -1048576, 1048574, 2);
        range("call . + ", "", -1048576, 1048574, 2);
        // The jal behind the branch is the one that must reach it.
        range("beq a0, a1, . + 4 + ", "", -1048576, 1048574, 2);
        range("bnez a0, . + 4 + ", "", -1048576, 1048574, 2);
        // An offset counts from the instruction, not from 0.
        Check.fault(".space 2000\nc.j -48", 0, 0);
        Check.fault(".space 2000\nc.j -50", 10, 2);
        Check.fault(".half 1\njal t0, 3", 10, 2);
        Check.fault(".byte 1\njal t0, 3", 0, 0);
    }

    private static void testMultiples() {
        range("c.addi4spn a0, ", "", 4, 1020, 4);
        range("c.lw a0, ", "(a1)", 0, 124, 4);
        range("c.sw a0, ", "(a1)", 0, 124, 4);
        range("c.addi16sp ", "", -512, 496, 16);
        range("c.lwsp a0, ", "", 0, 252, 4);
        range("c.swsp a0, ", "", 0, 252, 4);
        Check.fault("c.addi16sp 0", 10, 1);
        Check.fault("c.addi16sp 8", 10, 1);
    }

    private static void testShortRegisters() {
        String[] both = {"c.lw R, 0(a0)", "c.lw a0, 0(R)", "c.sw R, 0(a0)", "c.sw a0, 0(R)",
            "c.addi4spn R, 4", "c.srli R, 1", "c.srai R, 1", "c.andi R, 1", "c.sub R, a0",
            "c.sub a0, R", "c.xor R, a0", "c.or a0, R", "c.and R, a0", "c.beqz R, .", "c.bnez R, ."};
        for (String text : both) {
            Check.fault(text.replace("R", "x8"), 0, 0);
            Check.fault(text.replace("R", "x15"), 0, 0);
            Check.fault(text.replace("R", "x7"), 3, 1);
            Check.fault(text.replace("R", "x16"), 3, 1);
            Check.fault(text.replace("R", "zero"), 3, 1);
            Check.fault(text.replace("R", "x31"), 3, 1);
        }
        for (String text : new String[] {"c.lwsp R, 0", "c.jr R", "c.jalr R", "c.mv a0, R",
            "c.add a0, R"}) {
            Check.fault(text.replace("R", "zero"), 3, 1);
            Check.fault(text.replace("R", "ra"), 0, 0);
            Check.fault(text.replace("R", "t6"), 0, 0);
        }
        Check.fault("c.lui sp, 1", 3, 1);
        Check.fault("c.lui x2, 0", 3, 1);
        Check.word("c.mv zero, ra", "8006");
        Check.word("c.add zero, ra", "9006");
        Check.word("c.swsp zero, 0", "c002");
    }

    private static void testShapes() {
        String[] early = {"add", "add a0", "add a0,", "add a0,a1", "add a0,a1,", "addi a0,a1",
            "addi a0,a1,", "lw", "lw a0", "lw a0,", "lw a0,4", "lw a0,4(", "lw a0,4(a1", "lw a0,(a1)",
            "sw a0,4", "lui a0", "beq a0,a1", "beqz a0", "jal", "jal ra", "jal ra,", "jal ra+4",
            "jal l,m", "jalr", "jalr a0,", "jalr a0,4", "call", "j", "tail", "la a0", "li a0", "li",
            "lr.w a0", "lr.w a0,(", "sc.w a0,a1", "sc.w a0,a1,(a2", "sc.w a0,a1,a2", "rdtime",
            "sc.w a0,a1,0(a2)", "lr.w a0,a1,(a2)", "c.lwsp a0,0(sp)", "c.addi4spn a0,sp,4",
            "c.addi16sp sp,16", "nop 1", "ret a0", "fence 1,1", "mv a0,a1,a2", "add a0,a1,a2,a3",
            "add a0 a1,a2", "c.nop 1", "c.j", "c.beqz a0", "lw a0,4(a1)5", "lw a0,4(a1),", "jr ra,",
            "jalr a0,a1", "jalr a0,a1,4"};
        for (String text : early) {
            Check.fault(text, 1, 1);
        }
        Check.bytes("jalr a1\njalr a1,0(a2)\njalr a1#\nnop",
                "e7800500" + "e7050600" + "e7800500" + "13000000");
        String[] registers = {"add 5,a0,a0", "add ,a0", "add a0,(", "add a0,l,a0", "lw a0,4(4)",
            "lw a0,4(l)", "lw 4(a0)", "beq a0,5,l", "jalr 5", "jalr l", "jr l", "la l,5", "li 5,5",
            "lr.w a0,(5)", "lr.w a0,()", "c.jr 5", "rdtime 5", "mv a0,5", "beqz 5,5", "neg 1f,a0"};
        for (String text : registers) {
            Check.fault(text, 3, 1);
        }
        String[] unknown = {"foo", "a0", "zero a0", "foo a0", "hi", "lo", "add.aq",
            "lr.w.rlaq a0,(a0)", "lr.w.", "amoadd a0,a0,(a0)", "sub.w", "ADD a0,a0,a0", "subi",
            "c.subi", "c.add.aq a0,a0", ".", ".equ.", ".bytes 1", "beqzz", "fence.j"};
        for (String text : unknown) {
            Check.fault(text, 2, 1);
        }
    }
}
