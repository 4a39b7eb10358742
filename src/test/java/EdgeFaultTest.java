/** The boundary cases of faults: which one is told where two or more meet. */
final class EdgeFaultTest {
    public static void main(String[] args) {
        testFirst();
        testTooEarly();
        testStatements();
        testRegisters();
        testDefined();
        testFixed();
        testPhases();
        testTooLong();
        testLater();
        testNothingLeft();
        Check.end();
    }

    private static void testFirst() {
        Check.says("Lines are read from the first one on, each from the left; the first of these ends it");
        // Two faults in one line, in both orders, and in two lines.
        String[] wrong = {"foo", "jr 5", "l: l:", ".space u", ".space -1", ".space 1/0", "nop ;"};
        int[] due = {2, 3, 4, 5, 6, 9, 1};
        for (int i = 0; i < wrong.length; i++) {
            for (int j = 0; j < wrong.length; j++) {
                Check.fault(wrong[i] + "\n" + wrong[j], due[i], 1);
                Check.fault("nop\n" + wrong[i] + "\n\n" + wrong[j], due[i], 2);
            }
        }
        Check.fault("l: l: foo ;", 4, 1);
        Check.fault("l: foo 5 ;", 2, 1);
        Check.fault("l: ; l: foo", 1, 1);
        Check.fault("add 5, 5 ;", 3, 1);
        Check.fault("add a0 ; 5", 1, 1);
        Check.fault("c.lw t0, 5, 5", 3, 1);
        Check.fault("li 5, u", 3, 1);
        Check.fault("li a0 u", 1, 1);
        Check.fault("li a0, u u", 5, 1);
        Check.fault(".equ a0, u", 4, 1);
        Check.fault(".equ a0 u", 4, 1);
        Check.fault(".equ k u", 1, 1);
        Check.fault(".space 32769 1", 6, 1);
        Check.fault(".space 32768 1", 1, 1);
    }

    private static void testTooEarly() {
        Check.says("1 a character or token that can't be there, or a line that ends too early");
        String[] whole = {"add a0 , a1 , a2", "addi a0 , a1 , 5", "lw a0 , 4 ( a1 )", "sw a0 , 4 ( a1 )",
            "lui a0 , 5", "beq a0 , a1 , 0", "jal t0 , 0", "sc.w a0 , a1 , ( a2 )", "lr.w a0 , ( a2 )",
            "rdtime a0", "c.lw a0 , 4 ( a1 )", "c.addi a0 , 5", "c.beqz a0 , 0", "c.mv a0 , a1", "c.j 0",
            "mv a0 , a1", "beqz a0 , 0", "bgt a0 , a1 , 0", "la a0 , 0", "li a0 , 5", "jr a0", "call 0",
            ".equ k , 5", ".byte 5", ".word ( 5 )", ".ascii \"a\"", ".space 5", ".align 5"};
        for (String text : whole) {
            Check.good(text);
            String[] tokens = text.split(" ");
            StringBuilder part = new StringBuilder(tokens[0]);
            for (int i = 1; i < tokens.length; i++) {
                // Also where a register must be.
                Check.fault("\n" + part + "\nnop", 1, 2);
                Check.fault("\n" + part + " # " + tokens[i], 1, 2);
                Check.fault("\n" + part + " ;", 1, 2);
                Check.fault("\n" + part + " '", 1, 2);
                Check.fault("\n" + part + " 1x", 1, 2);
                part.append(' ').append(tokens[i]);
            }
            for (String more : new String[] {" ,", " )", " a0", " 5", " \"\"", " :", " ;", " <"}) {
                Check.fault("\n" + text + more, 1, 2);
            }
        }
    }

    private static void testStatements() {
        Check.says("2 the name of a statement that there is not (also a register's)");
        for (String name : new String[] {"foo", "x0", "x31", "zero", "fp", "a0", ".", "..", ".foo", "hi",
            "Add", "addd", "ad", "c.", "c", "c.ad", "c.addd", ".tex", ".texts", ".EQU", "fence.", "lr",
            "lr.w.", "beqzz", "x32"}) {
            Check.fault(name, 2, 1);
            Check.fault("\nl: " + name + " a0, ;", 2, 2);
        }
        // A label or constant of that name makes no statement.
        Check.fault("foo: foo", 2, 1);
        Check.fault(".equ foo, 1\nfoo", 2, 2);
        Check.fault("foo: nop\nfoo", 2, 2);
        // A statement's name may be a label's, and stays the statement's.
        Check.good("nop: nop\n.equ ret, 1\nret\n.byte: .byte nop, ret, .byte");
        for (String token : new String[] {"1", "12", "'a'", "\"a\"", "1f", "(", ")", ",", "+", "-", "~",
            "%", "<<", ":"}) {
            Check.fault("\n" + token, 1, 2);
            Check.fault("\nl: " + token, 1, 2);
        }
    }

    private static void testRegisters() {
        Check.says("3 no register where one must be (but another token), or not one of those said");
        for (String token : new String[] {"5", "l", "x32", "'a'", "\"a\"", "1f", "0b", ",", "(", ")", "+",
            "-", "*", "/", "%", "&", "|", "^", "~", "<<", ">>", ".", "nop"}) {
            for (String before : new String[] {"jr ", "add ", "add a0, ", "add a0, a1, ", "lw ",
                "lw a0, 4(", "sc.w a0, a1, (", "lr.w a0, (", "li ", "la ", "beqz ", "c.mv a0, ",
                "c.lw a0, 4(", "rdtime "}) {
                Check.fault("\n" + before + token, 3, 2);
            }
        }
        Check.fault("add a0, :", 3, 1);
        Check.good("add :");
    }

    private static void testDefined() {
        Check.says("4 a name that is defined already, or of a register, as a label or constant");
        Check.fault("l: l:", 4, 1);
        Check.fault("l:\nl:", 4, 2);
        Check.fault("l:\n.equ l, 1", 4, 2);
        Check.fault(".equ l, 1\nl:", 4, 2);
        Check.fault(".equ l, 1\n.equ l, 1", 4, 2);
        Check.fault("l:\n.data\nl:", 4, 3);
        Check.fault("x0:", 4, 1);
        Check.fault(".equ x31, 1", 4, 1);
        Check.good("l: L: l1: l_: l.: l$: .l: 1: 1:");
        Check.good("j l\n.byte l, m\nl:\n.equ m, 1");
        // One with a fault of its own has not been defined, but then there is nothing more to read.
        Check.fault(".equ k, u\nk:", 5, 1);
    }

    private static void testFixed() {
        Check.says("Of an e that must be fixed, when it is read to its end: 5 .. 9 .. 6");
        for (String name : new String[] {".space ", ".align "}) {
            Check.fault(name + "u", 5, 1);
            Check.fault(name + "u/0", 5, 1);
            Check.fault(name + "1/0+u", 5, 1);
            Check.fault(name + "-1/0", 9, 1);
            Check.fault(name + "40000+1%0", 9, 1);
            Check.fault(name + "-1", 6, 1);
            Check.fault(name + "40000", 6, 1);
            // Not before its end.
            Check.fault(name + "u+", 1, 1);
            Check.fault(name + "u+;", 1, 1);
            Check.fault(name + "1/0+", 1, 1);
            Check.fault(name + "(-1", 1, 1);
            Check.fault(name + "-1-", 1, 1);
            Check.good(name + "-1+1");
            Check.good(name + "40000-39999");
            // Then before what follows it.
            Check.fault(name + "u,", 5, 1);
            Check.fault(name + "1/0)", 9, 1);
            Check.fault(name + "-1 -1 1", 6, 1);
            Check.fault(name + "-1 \"", 6, 1);
        }
    }

    private static void testPhases() {
        Check.says("If there is none of these, and all is laid out");
        // The faults of reading come first, in whichever line they are.
        String[] late = {".space 32768\nnop", "j u", ".word 1/0", "addi a0, a0, 2048", "j . + 1"};
        int[] due = {7, 8 + 16, 9 + 16, 10 + 16, 10 + 16};
        for (int i = 0; i < late.length; i++) {
            Check.same(late[i], Check.fed(late[i]).assemble(), due[i]);
            Check.fault("nop\n\n\n" + "foo\n" + late[i], 2, 4);
            Check.same("read before " + late[i], Check.fed(late[i] + "\n\njr 5").assemble() % 16, 3);
            Check.same("read before " + late[i], Check.fed(late[i] + "\n.space -1").assemble() % 16, 6);
            Check.same("read before " + late[i], Check.fed(late[i] + "\n;").assemble() % 16, 1);
        }
        for (int i = 1; i < late.length; i++) {
            Check.fault(late[i] + "\n.space 32768", 7, 0);
            Check.fault(".space 32768\n" + late[i], 7, 0);
            Check.fault(".space 32700\n" + late[i], due[i] % 16, 2);
        }
    }

    private static void testTooLong() {
        Check.says("7 all ends above 32768 (no line: 0)");
        Check.same("above", Check.fed(".space 32768\n.byte 1").assemble(), 7);
        Check.same("above by much", Check.fed("\n\n.space 32768\n.space 32768").assemble(), 7);
        Check.same("not above", Check.fed(".space 32767\n.byte 1").assemble(), 0);
        Check.same("data above", Check.fed("nop\n.data\n.space 31745").assemble(), 7);
        Check.same("data not above", Check.fed("nop\n.data\n.space 31744").assemble(), 0);
    }

    private static void testLater() {
        Check.says("lines from the first one on, from the left, of each e in this order: 8 .. 9 .. 10");
        String[] wrong = {"addi a0, a0, u", "addi a0, a0, 1/0", "addi a0, a0, 2048", "j u", "j 1/0",
            "j . + 1", "jal t0, . + 1", "c.j . + 2048", "la a0, 1f", ".byte 1%0"};
        int[] due = {8, 9, 10, 8, 9, 10, 10, 10, 8, 9};
        for (int i = 0; i < wrong.length; i++) {
            for (int j = 0; j < wrong.length; j++) {
                Check.fault("\n" + wrong[i] + "\n" + wrong[j], due[i], 2);
                // The order is the text's, not that of the addresses.
                Check.fault(".data\n" + wrong[i] + "\n.text\n" + wrong[j], due[i], 2);
            }
        }
        Check.fault(".byte 1, 1/0, u", 9, 1);
        Check.fault(".byte 1, u, 1/0", 8, 1);
        Check.fault(".byte 1/0 + u", 8, 1);
        Check.fault(".byte u + 1/0", 8, 1);
        Check.fault(".byte 1/u", 8, 1);
        Check.fault("addi a0, a0, 1/0 + u", 8, 1);
        Check.fault("addi a0, a0, 9999 + 1/0", 9, 1);
        Check.fault("addi a0, a0, 9999 + u", 8, 1);
        Check.fault("c.j 1/0 + 1", 9, 1);
        Check.says("10 it, or the offset, is not as said (for its length)");
        Check.good("jal t0, . + 1048574\nj . + 1048574");
        Check.fault("jal t0, . + 1048576", 10, 1);
        Check.good("beq a0, a1, . + 1048578");
        Check.fault("beq a0, a1, . + 1048580", 10, 1);
        Check.fault("c.beqz a0, . + 256", 10, 1);
    }

    /** What a fault has broken off leaves nothing in the next text. */
    private static void testNothingLeft() {
        Check.says("nothing is assembled then, also not what was before");
        String[] wrong = {".word -", ".word ~", ".word 1 *", ".word 1 | 2 ^ 3 & 4 << 5 + 6 *", ".word -(",
            ".word %hi(", ".word 7 - %lo(-", ".data\nfoo", "l:\nl:", "1:\n2:\n3:\nfoo", ".equ m, 1\nfoo",
            "\"a", "'a", ".ascii \"zz\", 1", "j l\n.space 32768", "li a0, u", ".space 1/0", ".word u",
            "j . + 1", ".word 1, 2, 3, u", ".byte 1\n.align 11"};
        LineAssembler x = new LineAssembler();
        for (String text : wrong) {
            x.clear();
            Check.feedAll(x, text);
            int fault = x.assemble();
            Check.same("a fault of " + text, fault == 0 ? 0 : 1, 1);
            Check.same("the same again", x.assemble(), fault);
            x.clear();
            Check.feedAll(x, ".byte 5\n.ascii \"a\"\n1: .byte 1b\n.byte 1f\nl: m: .byte m\n1: .half 5+3");
            Check.same("assemble after " + text, x.assemble(), 0);
            Check.same("bytes after " + text, Check.bytes(x), "05" + "61" + "02" + "05" + "04" + "0800");
            Check.same("labels after " + text, x.size(3), 2);
            Check.same("constants after " + text, x.size(4), 0);
            Check.same("line after " + text, x.line(6), 6);
            x.clear();
            Check.feedAll(x, ".byte 3f");
            Check.same("no label is left", x.assemble(), 8 + 16);
        }
    }
}
