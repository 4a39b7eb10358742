/** Promise 4: jumps and branches that get longer, and size(5), their rounds. */
final class LengthTest {
    /** A text's size and rounds. */
    private static void grown(String text, int size, int rounds) {
        LineAssembler x = Check.assembled(text);
        Check.same("size of " + text, x.size(0), size);
        Check.same("rounds of " + text, x.size(5), rounds);
    }

    public static void main(String[] args) {
        testJumps();
        testShortBranches();
        testBranches();
        testOdd();
        testRounds();
        testWithFaults();
        testBytes();
        Check.end();
    }

    private static void testJumps() {
        for (String name : "j tail call jal".split(" ")) {
            grown(name + " l\n.space 2044\nl:", 2046, 0);
            grown(name + " l\n.space 2046\nl:", 2050, 1);
            grown("l: .space 2048\n" + name + " l", 2050, 0);
            grown("l: .space 2050\n" + name + " l", 2054, 1);
        }
        // Of two operands it is long from the first.
        grown("jal ra, l\nl:", 4, 0);
        grown("jal zero, l\nl:", 4, 0);
        // The short ones stay what they are.
        Check.fault("c.j l\n.space 2046\nl:", 10, 1);
        Check.fault("c.beqz a0, l\n.space 254\nl:", 10, 1);
    }

    private static void testShortBranches() {
        for (String name : "beqz bnez".split(" ")) {
            grown(name + " s0, l\n.space 252\nl:", 254, 0);
            grown(name + " a5, l\n.space 254\nl:", 258, 1);
            grown(name + " a5, l\n.space 4090\nl:", 4094, 1);
            grown(name + " a5, l\n.space 4092\nl:", 4100, 2);
            grown("l: .space 256\n" + name + " a0, l", 258, 0);
            grown("l: .space 258\n" + name + " a0, l", 262, 1);
            grown(name + " t2, l\nl:", 4, 0);
            grown(name + " a6, l\nl:", 4, 0);
            grown(name + " t2, l\n.space 4092\nl:", 4100, 1);
        }
    }

    private static void testBranches() {
        for (String name : "beq bne blt bge bltu bgeu bgt ble bgtu bleu".split(" ")) {
            grown(name + " a0, a1, l\n.space 4090\nl:", 4094, 0);
            grown(name + " a0, a1, l\n.space 4092\nl:", 4100, 1);
            grown("l: .space 4096\n" + name + " a0, a1, l", 4100, 0);
            grown("l: .space 4098\n" + name + " a0, a1, l", 4106, 1);
        }
        for (String name : "bgez bltz blez bgtz".split(" ")) {
            grown(name + " a0, l\nl:", 4, 0);
            grown(name + " a0, l\n.space 4092\nl:", 4100, 1);
        }
    }

    /** An odd offset fits no length: each gets as long as it can, and is a fault then. */
    private static void testOdd() {
        Check.fault("j . + 1", 10, 1);
        Check.fault("beqz a0, . + 1", 10, 1);
        Check.fault("blt a0, a1, . + 3", 10, 1);
        // These are odd only while they are short.
        grown("1: j . + (2f - 1b) / 2\n2:", 4, 1);
        grown("1: beqz a0, . + 3 + (2f - 1b) / 8\n2:", 8, 2);
    }

    private static void testRounds() {
        grown("j 1f\n.space 2042\nj 2f\n1: .space 2\n2:", 2048, 0);
        // Each makes the one before it too far in the round that follows.
        grown("j 1f\nj 2f\n.space 2042\n1: .space 4\n2:", 2054, 2);
        grown("j 1f\nj 2f\nj 3f\n.space 2038\n1: .space 4\n2: .space 4\n3:", 2058, 3);
        // Those that are too far at once get longer in one round.
        grown("j 1f\nj 1f\n.space 3000\n1:", 3008, 1);
        grown("j 1f\nbeq a0, a1, 1f\nbeqz a0, 1f\n.space 5000\n1:", 5020, 2);
        // What is long stays so, also where it has become near again.
        LineAssembler x = Check.assembled(
                "j 2f\nj 1f - 6\n.space 2046\n.align 3\n1: .space 3000\n2:");
        Check.same("size", x.size(0), 5056);
        Check.same("rounds", x.size(5), 1);
        Check.same("its bytes", Check.bytes(x).substring(8, 16), "6f00e07f");
        // The data moves as the text grows.
        LineAssembler y = Check.assembled("j d\n.space 1022\n.data\nd: .half d");
        Check.same("data", y.size(1), 1024);
        y = Check.assembled("j d + 1026\n.space 1022\n.data\nd: .half d");
        Check.same("data behind a longer text", y.size(1), 2048);
        Check.same("label in the data", y.address(0), 2048);
        Check.same("its byte", y.byteAt(2049), 8);
    }

    private static void testWithFaults() {
        // A name that there is not, or a division by 0, makes nothing longer: what is told is it.
        Check.fault("j nowhere", 8, 1);
        Check.fault("j 5/0", 9, 1);
        Check.fault("l: .space 32766\nj l + 1/0", 9, 2);
        Check.fault("l: .space 32764\nj l\nj m", 7, 0);
        Check.fault("l: .space 32766\nbeqz a0, m", 8, 2);
    }

    private static void testBytes() {
        Check.word("j . + 2048", "0010006f");
        Check.word("tail . - 2050", "ffeff06f");
        Check.word("call . + 2048", "001000ef");
        Check.word("jal . + 2048", "001000ef");
        Check.word("beqz a0, . + 256", "10050063");
        Check.word("bnez a0, . - 258", "ee051fe3");
        // The opposite condition over a jump whose offset counts from itself.
        Check.word("beq a0, a1, . + 4096", "7fd0006f" + "00b51463");
        Check.word("bleu a0, a1, . - 4098", "ffbfe06f" + "00a5e463");
        Check.word("beqz s0, . + 4096", "7fd0006f" + "00041463");
        Check.word("blez a0, . - 4098", "ffbfe06f" + "00a04463");
    }
}
