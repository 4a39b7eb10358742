/** The boundary cases of the instructions of four bytes, and of those that are short for others. */
final class EdgeInstructionTest {
    private static final int MIN = Integer.MIN_VALUE;
    private static final int MAX = Integer.MAX_VALUE;

    public static void main(String[] args) {
        testRegisters();
        testNumbers();
        testShifts();
        testLoads();
        testStores();
        testUpper();
        testBranches();
        testJumps();
        testAtomics();
        testAlone();
        testOthers();
        testLoadNumber();
        testLoadAddress();
        Check.end();
    }

    /** What an instruction does not take, with E for the number. */
    private static void refused(String form, int... numbers) {
        for (int number : numbers) {
            Check.fault("\n" + form.replace("E", "(" + number + ")"), 10, 2);
        }
    }

    private static void testRegisters() {
        Check.says("d, a, b: registers, in bits 7 .. 11, 15 .. 19, 20 .. 24");
        String[] names = "add sub sll slt sltu xor srl sra or and".split(" ");
        int[] f = {0, 0, 1, 2, 3, 4, 5, 5, 6, 7};
        int[] g = {0, 32, 0, 0, 0, 0, 0, 32, 0, 0};
        String[] more = "mul mulh mulhsu mulhu div divu rem remu".split(" ");
        int[][] sets = {{0, 0, 0}, {31, 31, 31}, {31, 0, 0}, {0, 31, 0}, {0, 0, 31}, {1, 2, 4}, {16, 8, 1}};
        for (int[] r : sets) {
            String operands = " x" + r[0] + ", x" + r[1] + ", x" + r[2];
            int bits = 51 | r[0] << 7 | r[1] << 15 | r[2] << 20;
            for (int i = 0; i < names.length; i++) {
                Check.word(names[i] + operands, bits | f[i] << 12 | g[i] << 25);
            }
            for (int i = 0; i < more.length; i++) {
                Check.word(more[i] + operands, bits | i << 12 | 1 << 25);
            }
        }
    }

    private static void testNumbers() {
        Check.says("e -2048 .. 2047 in bits 20 .. 31");
        String[] names = "addi slti sltiu xori ori andi".split(" ");
        int[] f = {0, 2, 3, 4, 6, 7};
        for (int i = 0; i < names.length; i++) {
            for (int e : new int[] {-2048, -2047, -1, 0, 1, 2046, 2047}) {
                Check.word(names[i] + " x31, x16, " + e, 19 | f[i] << 12 | 31 << 7 | 16 << 15 | e << 20);
            }
            refused(names[i] + " a0, a1, E", -2049, 2048, 4095, 4096, -4096, MIN, MAX);
        }
        // What goes round into the range is in it.
        Check.word("addi a0, a1, 0xFFFFFFFF", "fff58513");
        Check.word("addi a0, a1, 0xFFFFF800", "80058513");
        Check.fault("addi a0, a1, 0xFFFFF7FF", 10, 1);
    }

    private static void testShifts() {
        Check.says("slli F 1, srli 5, srai 5 and G 32: e 0 .. 31 in bits 20 .. 24");
        String[] names = "slli srli srai".split(" ");
        int[] bits = {19 | 1 << 12, 19 | 5 << 12, 19 | 5 << 12 | 32 << 25};
        for (int i = 0; i < names.length; i++) {
            for (int e : new int[] {0, 1, 15, 16, 30, 31}) {
                Check.word(names[i] + " x31, x16, " + e, bits[i] | 31 << 7 | 16 << 15 | e << 20);
            }
            refused(names[i] + " a0, a1, E", -1, 32, 33, 64, 1024, MIN, MAX);
        }
    }

    private static void testLoads() {
        Check.says("d, e(a): e -2048 .. 2047 in bits 20 .. 31");
        String[] names = "lb lh lw lbu lhu jalr".split(" ");
        int[] bits = {3, 3 | 1 << 12, 3 | 2 << 12, 3 | 4 << 12, 3 | 5 << 12, 103};
        for (int i = 0; i < names.length; i++) {
            for (int e : new int[] {-2048, -1366, -1, 0, 1, 1365, 2047}) {
                Check.word(names[i] + " x31, " + e + "(x16)", bits[i] | 31 << 7 | 16 << 15 | e << 20);
            }
            refused(names[i] + " a0, E(a1)", -2049, 2048, 4096, MIN, MAX);
        }
    }

    private static void testStores() {
        Check.says("b, e(a): e likewise, its bits 5 .. 11 in G, 0 .. 4 in 7 .. 11");
        String[] names = "sb sh sw".split(" ");
        for (int i = 0; i < names.length; i++) {
            for (int e : new int[] {-2048, -1366, -1, 0, 1, 31, 32, 1365, 2047}) {
                Check.word(names[i] + " x31, " + e + "(x16)", 35 | i << 12 | 31 << 20 | 16 << 15
                        | (e & 31) << 7 | (e >> 5) << 25);
            }
            refused(names[i] + " a0, E(a1)", -2049, 2048, 4096, MIN, MAX);
        }
    }

    private static void testUpper() {
        Check.says("lui 55, auipc 23: e 0 .. 1048575 in bits 12 .. 31");
        for (int e : new int[] {0, 1, 524287, 524288, 1048574, 1048575}) {
            Check.word("lui x31, " + e, 55 | 31 << 7 | e << 12);
            Check.word("auipc x31, " + e, 23 | 31 << 7 | e << 12);
        }
        refused("lui a0, E", -1, 1048576, -1048576, MIN, MAX);
        refused("auipc a0, E", -1, 1048576, -1048576, MIN, MAX);
    }

    private static int branchBits(int v) {
        return (v >> 12 & 1) << 31 | (v >> 5 & 63) << 25 | (v >> 1 & 15) << 8 | (v >> 11 & 1) << 7;
    }

    private static int jumpBits(int v) {
        return (v >> 20 & 1) << 31 | (v >> 1 & 1023) << 21 | (v >> 11 & 1) << 20 | (v >> 12 & 255) << 12;
    }

    private static void testBranches() {
        Check.says("a, b, t: the offset -4096 .. 4094, even");
        String[] names = "beq bne blt bge bltu bgeu".split(" ");
        int[] f = {0, 1, 4, 5, 6, 7};
        for (int i = 0; i < names.length; i++) {
            int bits = 99 | f[i] << 12 | 31 << 15 | 16 << 20;
            for (int offset : new int[] {-4096, -4094, -2, 0, 2, 2046, 2048, 4092, 4094}) {
                Check.word(names[i] + " x31, x16, . + " + offset, bits | branchBits(offset));
            }
            // Beyond it they are longer; one that is odd is none.
            for (int offset : new int[] {-4098, 4096, -1048572, 1048578}) {
                Check.word(names[i] + " x31, x16, . + " + offset,
                        String.format("%08x%08x", 111 | jumpBits(offset - 4), (bits ^ 1 << 12) | branchBits(8)));
            }
            refused(names[i] + " a0, a1, . + E", -4095, -1, 1, 3, 4093, 4095, MAX);
            refused(names[i] + " a0, a1, . + E", -1048574, 1048580, MIN, MIN + 2, MAX - 1);
        }
    }

    private static void testJumps() {
        Check.says("d, t: jal 111: -1048576 .. 1048574, even");
        for (int offset : new int[] {-1048576, -1048574, -2, 0, 2, 2046, 2048, 4094, 4096, 1048572, 1048574}) {
            Check.word("jal x31, . + " + offset, 111 | 31 << 7 | jumpBits(offset));
        }
        refused("jal t0, . + E", -1048578, -1048577, -1048575, -1, 1, 1048573, 1048575, 1048576, MIN, MAX);
        Check.says("the OFFSET being it minus the address of the instruction");
        Check.bytes("nop\njal t0, 4\n", "13000000" + "ef020000");
        Check.bytes("nop\nc.j 4", "13000000" + "01a0");
        Check.bytes("nop\nc.jal 4", "13000000" + "0120");
        Check.bytes("nop\nc.beqz s0, 4", "13000000" + "01c0");
        Check.bytes("nop\nc.bnez s0, 4", "13000000" + "01e0");
        Check.bytes("nop\nj 4", "13000000" + "01a0");
        Check.bytes("nop\nbeqz s0, 4", "13000000" + "01c0");
        Check.bytes("nop\nbeq a0, a1, 4", "13000000" + "6300b500");
        Check.bytes("nop\nbeq a0, a1, 5004", "13000000" + "6314b500" + "6f104038");
        Check.bytes("nop\nla a0, 4", "13000000" + "17050000" + "13050500");
        // Of odd ones it is the difference that counts.
        Check.good(".byte 0\nc.j 1\nj 3\nbeqz a0, 5\nbne a0, a1, 7");
        Check.fault(".byte 0\nc.j 2", 10, 2);
        Check.fault(".byte 0\nc.beqz a0, 0", 10, 2);
        Check.fault(".byte 0\njal t0, 2", 10, 2);
        // The difference goes round.
        Check.fault("nop\njal t0, 0x80000000", 10, 2);
        Check.fault("nop\njal t0, 0x7FFFFFFE", 10, 2);
        Check.good("jal t0, 0xFFFFFFFE\nj -2\nc.j 0xFFFFFFF0");
    }

    private static void testAtomics() {
        Check.says("the name may have .aq (bit 26), .rl (25) or .aqrl (both) behind it");
        String[] names = ("sc.w amoswap.w amoadd.w amoxor.w amoand.w amoor.w amomin.w amomax.w amominu.w"
                + " amomaxu.w lr.w").split(" ");
        int[] upper = {3, 1, 0, 4, 12, 8, 16, 20, 24, 28, 2};
        String[] ends = {"", ".rl", ".aq", ".aqrl"};
        for (int i = 0; i < names.length; i++) {
            boolean three = i < names.length - 1;
            int bits = 47 | 2 << 12 | 31 << 7 | 16 << 15 | (three ? 8 << 20 : 0) | upper[i] << 27;
            for (int order = 0; order < 4; order++) {
                Check.word(names[i] + ends[order] + (three ? " x31, x8, (x16)" : " x31, (x16)"),
                        bits | order << 25);
            }
            for (String end : new String[] {".", ".a", ".rlaq", ".aq.rl", ".aqrl.", ".w", ".AQ"}) {
                Check.fault(names[i] + end + " a0, a1, (a2)", 2, 1);
            }
            Check.fault(names[i] + (three ? " a0, (a1)" : " a0, a1, (a2)"), three ? 3 : 1, 1);
        }
    }

    private static void testAlone() {
        Check.says("Alone: fence 267386895, fence.i 4111, ecall 115, ebreak 1048691");
        String[] names = {"fence", "fence.i", "ecall", "ebreak", "nop", "ret"};
        int[] due = {267386895, 4111, 115, 1048691, 19, 103 | 1 << 15};
        for (int i = 0; i < names.length; i++) {
            Check.word(names[i], due[i]);
            for (String more : new String[] {" 0", " a0", ",", " (", " l", ":1", " nop"}) {
                Check.fault(names[i] + more, 1, 1);
            }
        }
        String[] counters = "rdcycle rdtime rdinstret rdcycleh rdtimeh rdinstreth".split(" ");
        int[] numbers = {3072, 3073, 3074, 3200, 3201, 3202};
        for (int i = 0; i < counters.length; i++) {
            Check.word(counters[i] + " x0", 115 | 2 << 12 | numbers[i] << 20);
            Check.word(counters[i] + " x31", 115 | 2 << 12 | numbers[i] << 20 | 31 << 7);
            Check.fault(counters[i], 1, 1);
            Check.fault(counters[i] + " 1", 3, 1);
            Check.fault(counters[i] + " a0, a1", 1, 1);
        }
    }

    private static void testOthers() {
        Check.says("OTHERS are short for these");
        String[][] pairs = {{"nop", "addi zero, zero, 0"}, {"mv D, A", "addi D, A, 0"},
            {"not D, A", "xori D, A, -1"}, {"neg D, A", "sub D, zero, A"}, {"seqz D, A", "sltiu D, A, 1"},
            {"snez D, A", "sltu D, zero, A"}, {"sltz D, A", "slt D, A, zero"},
            {"sgtz D, A", "slt D, zero, A"}, {"jr A", "jalr zero, 0(A)"}, {"ret", "jalr zero, 0(ra)"},
            {"jalr A", "jalr ra, 0(A)"}, {"bgez A, .+8", "bge A, zero, .+8"},
            {"bltz A, .+8", "blt A, zero, .+8"}, {"blez A, .+8", "bge zero, A, .+8"},
            {"bgtz A, .+8", "blt zero, A, .+8"}, {"bgt D, A, .+8", "blt A, D, .+8"},
            {"ble D, A, .+8", "bge A, D, .+8"}, {"bgtu D, A, .+8", "bltu A, D, .+8"},
            {"bleu D, A, .+8", "bgeu A, D, .+8"}, {"beqz A, .+4094", "beq A, zero, .+4094"},
            {"bnez A, .-4096", "bne A, zero, .-4096"}, {"j .+4096", "jal zero, .+4096"},
            {"tail .+4096", "jal zero, .+4096"}, {"call .+4096", "jal ra, .+4096"},
            {"jal .+4096", "jal ra, .+4096"}, {"bgez A, .+4096", "bge A, zero, .+4096"},
            {"bltz A, .+4096", "blt A, zero, .+4096"}, {"blez A, .+4096", "bge zero, A, .+4096"},
            {"bgtz A, .+4096", "blt zero, A, .+4096"}, {"bgt D, A, .+4096", "blt A, D, .+4096"},
            {"ble D, A, .+4096", "bge A, D, .+4096"}, {"bgtu D, A, .+4096", "bltu A, D, .+4096"},
            {"bleu D, A, .+4096", "bgeu A, D, .+4096"}, {"beqz A, .+4096", "beq A, zero, .+4096"},
            {"bnez A, .-4098", "bne A, zero, .-4098"}};
        int[][] sets = {{0, 0}, {31, 0}, {0, 31}, {31, 31}, {1, 2}, {10, 9}, {7, 16}};
        for (String[] pair : pairs) {
            for (int[] r : sets) {
                String one = pair[0].replace("D", "x" + r[0]).replace("A", "x" + r[1]);
                String other = pair[1].replace("D", "x" + r[0]).replace("A", "x" + r[1]);
                Check.bytes(one, Check.bytes(Check.assembled(other)));
            }
        }
        Check.says("jal t (one operand, no register's name; with one it wants d, t)");
        Check.half("jal .", 1 | 1 << 13);
        Check.fault("jal", 1, 1);
        Check.fault("jal ra", 1, 1);
        Check.fault("jal ra,", 1, 1);
        Check.fault("jal ra ra", 1, 1);
        Check.fault("jal ra + 1", 1, 1);
        Check.fault("jal l, l", 1, 1);
        Check.fault("jal (ra)", 8, 1);
        Check.fault("jal -ra", 8, 1);
        Check.fault("jal ra, ra", 8, 1);
        Check.word("jal ra, .", 111 | 1 << 7);
        Check.says("jalr a (one operand)");
        Check.fault("jalr", 1, 1);
        Check.fault("jalr\n\n", 1, 1);
        Check.fault("jalr 1", 3, 1);
        Check.fault("jalr ra,", 1, 1);
        Check.fault("jalr ra, ra", 1, 1);
        Check.fault("jalr ra, 0", 1, 1);
        Check.fault("jalr ra 0(ra)", 1, 1);
    }

    private static void testLoadNumber() {
        Check.says("li d, e (fixed): c.li, if e is -32 .. 31 and d not 0");
        for (int e : new int[] {-32, -31, -1, 0, 1, 30, 31}) {
            for (int d : new int[] {1, 2, 8, 31}) {
                Check.half("li x" + d + ", " + e, 1 | 2 << 13 | d << 7 | (e & 32) << 7 | (e & 31) << 2);
            }
            Check.word("li zero, " + e, 19 | e << 20);
        }
        Check.says("else addi d, zero, e, if it is -2048 .. 2047");
        for (int e : new int[] {-2048, -2047, -34, -33, 32, 33, 2046, 2047}) {
            for (int d : new int[] {0, 1, 2, 8, 31}) {
                Check.word("li x" + d + ", " + e, 19 | d << 7 | e << 20);
            }
        }
        Check.says("else lui d, %hi(e), and addi d, d, %lo(e), unless %lo(e) is 0");
        for (int e : new int[] {-2049, 2048, 4095, 4097, -4095, -4097, MAX, MAX - 2047, MAX - 2048, MIN + 1,
            MIN + 2047, MIN + 2048, MIN + 4095, 0x12345678}) {
            for (int d : new int[] {0, 1, 2, 8, 31}) {
                Check.word("li x" + d + ", " + e, String.format("%08x%08x",
                        19 | d << 7 | d << 15 | e << 20, 55 | d << 7 | (e + 2048 & 0xFFFFF000)));
            }
        }
        for (int e : new int[] {4096, -4096, 8192, MIN, MIN + 4096, MAX - 4095}) {
            for (int d : new int[] {0, 1, 2, 8, 31}) {
                Check.word("li x" + d + ", " + e, 55 | d << 7 | e);
            }
        }
        Check.half("li a0, 0xFFFFFFE0", 0x5501);
        Check.fault("li a0, l\nl:", 5, 1);
        Check.fault("li a0, 1/0", 9, 1);
        Check.fault("li a0", 1, 1);
        Check.fault("li a0,", 1, 1);
        Check.fault("li a0, 1,", 1, 1);
        Check.fault("li 0, 1", 3, 1);
    }

    private static void testLoadAddress() {
        Check.says("la d, e: auipc d, %hi(offset), addi d, d, %lo(offset)");
        for (int offset : new int[] {0, 1, -1, 2047, 2048, 2049, 4095, 4096, -2048, -2049, -4096, -4097,
            MAX, MAX - 2047, MAX - 2048, MIN, MIN + 2047, MIN + 2048}) {
            for (int d : new int[] {0, 1, 31}) {
                Check.word("la x" + d + ", . + " + offset, String.format("%08x%08x",
                        19 | d << 7 | d << 15 | offset << 20,
                        23 | d << 7 | (offset + 2048 & 0xFFFFF000)));
            }
        }
        Check.says("the offset being e minus the address of the first one");
        Check.bytes("nop\nla a0, 0x80000000", "13000000" + "17050080" + "1305c5ff");
        Check.bytes("l: la a0, l + 8\nla a0, l", "17050000" + "13058500" + "17050000" + "130585ff");
    }
}
