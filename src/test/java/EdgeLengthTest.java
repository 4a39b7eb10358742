/** The boundary cases of jumps and branches that get longer. */
final class EdgeLengthTest {
    public static void main(String[] args) {
        testJumps();
        testShortBranches();
        testBranches();
        testLongest();
        testFirstRegisters();
        testOdd();
        testAtOnce();
        testAgain();
        testNeverShorter();
        testFaults();
        testData();
        Check.end();
    }

    /** The size of a text, and its rounds. */
    private static void grown(String text, int size, int rounds) {
        LineAssembler x = Check.assembled(text);
        Check.same("size of " + text, x.size(0), size);
        Check.same("rounds of " + text, x.size(5), rounds);
    }

    /** A jump or branch alone, to an offset. */
    private static void alone(String text, int offset, int size, int rounds) {
        grown(text + "(. + " + offset + ")", size, rounds);
    }

    private static void testJumps() {
        Check.says("jal of one operand, call, j and tail are c.jal and c.j at first, and become jal");
        for (String name : new String[] {"jal ", "call ", "j ", "tail "}) {
            for (int offset : new int[] {-2048, -2046, 0, 2044, 2046}) {
                alone(name, offset, 2, 0);
            }
            for (int offset : new int[] {-1048576, -1048574, -2052, -2050, 2048, 2050, 1048572, 1048574}) {
                alone(name, offset, 4, 1);
            }
            for (int offset : new int[] {-1048578, 1048576, Integer.MIN_VALUE, 0x7FFFFFFE}) {
                Check.fault("\n" + name + ". + " + offset, 10, 2);
            }
        }
        // Those of a given length keep it.
        alone("jal ra, ", 0, 4, 0);
        alone("jal zero, ", -1048576, 4, 0);
        Check.fault("c.j . + 2048", 10, 1);
        Check.fault("c.jal . - 2050", 10, 1);
    }

    private static void testShortBranches() {
        Check.says("beqz and bnez with a register 8 .. 15 are c.beqz, c.bnez at first");
        for (String name : new String[] {"beqz s0, ", "bnez s0, ", "beqz a5, ", "bnez a5, "}) {
            for (int offset : new int[] {-256, -254, 0, 252, 254}) {
                alone(name, offset, 2, 0);
            }
            for (int offset : new int[] {-4096, -4094, -260, -258, 256, 258, 4092, 4094}) {
                alone(name, offset, 4, 1);
            }
            for (int offset : new int[] {-1048572, -4098, 4096, 1048578}) {
                alone(name, offset, 8, 2);
            }
        }
        Check.fault("c.beqz a0, . + 256", 10, 1);
        Check.fault("c.bnez a0, . - 258", 10, 1);
    }

    private static void testBranches() {
        Check.says("all branches whose names begin with b, become eight bytes");
        String[] names = {"beq a0, a1, ", "bne a0, a1, ", "blt a0, a1, ", "bge a0, a1, ", "bltu a0, a1, ",
            "bgeu a0, a1, ", "bgt a0, a1, ", "ble a0, a1, ", "bgtu a0, a1, ", "bleu a0, a1, ", "bgez a0, ",
            "bltz a0, ", "blez a0, ", "bgtz a0, ", "beqz t0, ", "bnez t0, ", "beq a0, zero, ",
            "bne s0, zero, "};
        for (String name : names) {
            for (int offset : new int[] {-4096, -258, -256, 0, 254, 256, 4094}) {
                alone(name, offset, 4, 0);
            }
            for (int offset : new int[] {-1048572, -4098, 4096, 1048578}) {
                alone(name, offset, 8, 1);
            }
            Check.fault("\n" + name + ". - 1048574", 10, 2);
            Check.fault("\n" + name + ". + 1048580", 10, 2);
        }
    }

    private static void testLongest() {
        Check.says("the branch with the opposite condition (F ^ 1) over what follows, and jal zero, t");
        Check.word("bgeu x31, x30, . + 4096", "7fd0006f" + "01efe463");
        Check.word("beq x16, x31, . - 4098", "ffbfe06f" + "01f81463");
        Check.word("bltz x31, . + 1048578", "7ffff06f" + "000fd463");
        Check.word("bnez a5, . - 1048572", "8000006f" + "00078463");
        Check.word("beqz a5, . + 5000", "3840106f" + "00079463");
    }

    private static void testFirstRegisters() {
        Check.says("with a register 8 .. 15");
        for (int r = 0; r < 32; r++) {
            int size = r >= 8 && r <= 15 ? 2 : 4;
            grown("beqz x" + r + ", .", size, 0);
            grown("bnez x" + r + ", .", size, 0);
        }
    }

    private static void testOdd() {
        Check.says("all those whose offset is too far, or odd, for their length");
        for (String name : new String[] {"j ", "call ", "beqz a0, ", "beqz t0, ", "bltu a0, a1, "}) {
            for (int offset : new int[] {-1, 1, 3, 255, -257, 4095, -4097}) {
                Check.fault("\n" + name + ". + " + offset, 10, 2);
            }
        }
        // Odd for two bytes, and even when it has four, or eight.
        grown("j l + (l >> 1) - 2\nl:", 4, 1);
        grown("beqz a0, l / 8 * 7 - 7 + l\nl:", 8, 2);
        // It is as long as it can be when the fault is told: what follows it has been moved.
        Check.fault(".space 32760\nbeqz a0, . + 1\n.byte 1", 7, 0);
        Check.fault(".space 32760\nbeqz a0, . + 1", 10, 2);
    }

    private static void testAtOnce() {
        Check.says("get the next one, at once");
        grown("j l\n".repeat(50) + ".space 3000\nl:", 3200, 1);
        grown("beqz a0, l\nj l\nblt a0, a1, l\nbeqz t0, l\n.space 5000\nl:", 5028, 2);
        grown("j l\nj n\n.space 2044\nn: .space 2\nl:", 2052, 1);
        grown("m: j l\nj m\n.space 3000\nl:", 3006, 1);
        // The second one is too far only because the first one is longer: not in the same round.
        grown("l: j m\n.space 2044\nj l\n.space 2\nm:", 2052, 1);
        grown("l: j m\n.space 2046\nj l\n.space 2\nm:", 2056, 2);
    }

    private static void testAgain() {
        Check.says("and this again, till there is none");
        grown("", 0, 0);
        grown("nop", 4, 0);
        // Each makes the next one too far: first all get four bytes, then all get eight.
        int many = 20;
        StringBuilder text = new StringBuilder("beqz s0, . + 1000 + e / " + 4 * many + " * 4000\n");
        for (int i = 1; i < many; i++) {
            text.append("beqz s0, . + (. - ").append(2 * i).append(") / ").append(2 * i).append(" * 1400\n");
        }
        text.append("e:");
        grown(text.toString(), 8 * many, 2 * many);
    }

    private static void testNeverShorter() {
        Check.says("get the next one");
        // It is near again as soon as it is longer, and stays as it is.
        Check.word("j . + 2050 - l\nl:", 111 | 2046 << 20);
        grown("j . + 2050 - l\nl:", 4, 1);
        grown("beqz a0, . + 258 - l\nl:", 4, 1);
        grown("beq a0, a1, . + 4100 - l\nl:", 8, 1);
    }

    private static void testFaults() {
        Check.says("(t having no fault 8 or 9)");
        Check.fault(".space 32766\nj nowhere", 8, 2);
        Check.fault(".space 32766\nj 1f", 8, 2);
        Check.fault(".space 32766\nj 1/0", 9, 2);
        Check.fault(".space 32764\nbeq a0, a1, nowhere", 8, 2);
        Check.fault(".space 32766\nbeqz a0, 1 % 0", 9, 2);
        Check.fault(".space 32766\nj nowhere\n.byte 1", 7, 0);
        // One that divides by 0 as long as another one is short, and then is too far.
        LineAssembler x = Check.assembled("j l + 4000\nl: m: j m + 9000 / (l - 2)");
        Check.same("size", x.size(0), 8);
        Check.same("rounds", x.size(5), 2);
    }

    private static void testData() {
        Check.says("All addresses are found");
        // A label of the data moves by 1024 when the text gets above a multiple of it.
        grown("j d\n.space 1022\n.data\nd:", 1024, 0);
        grown("j d\n.space 2046\n.data\nd:", 2050, 1);
        LineAssembler x = Check.assembled("j d\nj d + 1024\n.space 2044\n.data\nd:");
        Check.same("size", x.size(0), 2052);
        Check.same("data", x.size(1), 3072);
        Check.same("rounds", x.size(5), 1);
    }
}
