/** Promise 4: which fault is told, of several. */
final class FaultTest {
    public static void main(String[] args) {
        testEach();
        testFromTheLeft();
        testFirstLine();
        testFixedOrder();
        testLaterOrder();
        testTaken();
        testAfterFaults();
        Check.end();
    }

    private static void testEach() {
        Check.fault("add a0, a1;", 1, 1);
        Check.fault("addd a0, a1, a2", 2, 1);
        Check.fault("add a0, a1, 5", 3, 1);
        Check.fault("l:\nl:", 4, 2);
        Check.fault("l: .space l", 5, 1);
        Check.fault(".space -1", 6, 1);
        Check.fault(".space 32767\n.space 2", 7, 0);
        Check.fault("j l", 8, 1);
        Check.fault(".word 1/0", 9, 1);
        Check.fault("addi a0, a0, 2048", 10, 1);
    }

    private static void testFromTheLeft() {
        Check.fault("foo ;", 2, 1);
        Check.fault("; foo", 1, 1);
        Check.fault("a0: ;", 4, 1);
        Check.fault("a0 ;", 2, 1);
        Check.fault("add 5, ;", 3, 1);
        Check.fault("add a0; 5", 1, 1);
        Check.fault("add ;", 1, 1);
        Check.fault("add \"", 1, 1);
        Check.fault("l: l: foo", 4, 1);
        Check.fault("l: foo\nl:", 2, 1);
        Check.fault(".equ a0 ;", 4, 1);
        Check.fault(".equ a, b ;", 5, 1);
        Check.fault(".space -1, 5", 6, 1);
        Check.fault(".space 1, -5", 1, 1);
        Check.fault("li 5, l", 3, 1);
        Check.fault("li a0, l", 5, 1);
        Check.fault("c.lw a0, 1 1(t0)", 1, 1);
        Check.fault("c.lw a0, 1(t0) 1", 3, 1);
        Check.fault("c.lw t0, 1 1", 3, 1);
        Check.fault("beq a0, 5, 5;", 3, 1);
        Check.fault("jalr 5 ;", 3, 1);
    }

    private static void testFirstLine() {
        Check.fault("nop\nj l\nfoo", 2, 3);
        Check.fault("foo\n;", 2, 1);
        Check.fault("nop # ;\nfoo\n;", 2, 2);
        Check.fault(".byte 1/0\n.byte x\n", 9, 1);
        Check.fault(".byte 1\n.data\n.byte 1/0\n.text\n.byte x", 9, 3);
        Check.fault("addi a0, a0, 5000\nj l", 10, 1);
        Check.fault("j l\naddi a0, a0, 5000", 8, 1);
    }

    private static void testFixedOrder() {
        Check.fault(".space l / 0", 5, 1);
        Check.fault(".space 1 / 0 - 9", 9, 1);
        Check.fault(".space 1 / 0 - l", 5, 1);
        Check.fault(".space -1 + 0 * (1 / 1)", 6, 1);
        Check.fault(".space -1 +", 1, 1);
        Check.fault(".space (-1", 1, 1);
        Check.fault(".space l l", 5, 1);
        Check.fault(".align 11 11", 6, 1);
        Check.fault(".align 10 11", 1, 1);
        Check.fault(".space -1)", 6, 1);
        Check.fault(".space 1)", 1, 1);
    }

    private static void testLaterOrder() {
        Check.fault("addi a0, a0, 5000 / 0 + l", 8, 1);
        Check.fault("addi a0, a0, 5000 + 1 / 0", 9, 1);
        Check.fault("addi a0, a0, l - l", 8, 1);
        Check.fault(".word 1, 1 / 0, l", 9, 1);
        Check.fault(".word 1, l, 1 / 0", 8, 1);
        Check.fault("jal t0, 1 + 0 / 0", 9, 1);
        Check.fault("la a0, 0 / 0", 9, 1);
        Check.fault("la a0, 1f", 8, 1);
        Check.fault("lw a0, l(a0)", 8, 1);
        Check.fault("lw a0, (a0)(a0)", 8, 1);
        Check.fault("jal (a0)", 8, 1);
        Check.fault("j a0", 8, 1);
        Check.fault("j .\n.byte 1\nj 1 / 0", 9, 3);
        Check.fault("j .\n.byte 1\nj l", 8, 3);
        // All is laid out before these: too much comes first.
        Check.fault("j l\n.space 32768", 7, 0);
    }

    private static void testTaken() {
        Check.fault("l: .equ m, 1\nm:", 4, 2);
        Check.fault("l: l:", 4, 1);
        Check.fault("L: l:", 0, 0);
        Check.fault("1: 1: 1:", 0, 0);
        Check.fault(".: .:", 4, 1);
        for (String name : "x0 x31 zero ra sp gp tp t0 s0 a0 a7 s11 t6 fp".split(" ")) {
            Check.fault(name + ":", 4, 1);
            Check.fault("nop\n.equ " + name + ", 1", 4, 2);
            Check.fault(name, 2, 1);
        }
        Check.fault("x32: s12: t7: a8: fP:", 0, 0);
    }

    /** No fault leaves anything for the next text. */
    private static void testAfterFaults() {
        String[] wrong = {"nop ;", "foo", "jr 5", "l: l:", ".space l", ".space -1", ".space 32768\nnop",
            "j l", ".word 1 / 0", "addi a0, a0, 5000", ".word (((1", "li a0, 1 / 0", "\"abc", ".data\n;"};
        LineAssembler x = new LineAssembler();
        for (String text : wrong) {
            Check.feedAll(x, text);
            Check.same("has a fault: " + text, x.assemble() == 0 ? 1 : 0, 0);
            x.clear();
            Check.feedAll(x, "l: j l + (4 | 2) / 3\n.equ k, 1 + 1\n.ascii \"z\"\nfoo: .byte k");
            Check.same("assemble after " + text, x.assemble(), 0);
            Check.same("bytes after " + text, Check.bytes(x), "09a07a02");
            x.clear();
        }
    }
}
