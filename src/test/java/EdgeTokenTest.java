/** The boundary cases of names, numbers, near names, quoted characters, texts and labels. */
final class EdgeTokenTest {
    private static final String NAME_31 = "n123456789_123456789.123456789$";
    private static final String NAME_32 = NAME_31 + "1";

    public static void main(String[] args) {
        testNames();
        testNameCharacters();
        testNumbers();
        testDigits();
        testBehindNumbers();
        testNear();
        testQuoted();
        testTexts();
        testLabels();
        testRegisters();
        Check.end();
    }

    private static void testNames() {
        Check.says("a NAME: 1 to 31 letters, digits, _ . and $, the first one no digit");
        for (String name : new String[] {"n", "_", "$", "..", NAME_31.substring(0, 30), NAME_31}) {
            LineAssembler x = Check.assembled(name + ": j " + name);
            Check.same("name", Check.name(x, 0), name);
            Check.bytes(".equ " + name + ", 7\n.byte " + name, "07");
            Check.fault(name, 2, 1);
            Check.fault("jr " + name, 3, 1);
            Check.fault(".byte " + name, 8, 1);
            Check.fault(".space " + name, 5, 1);
            Check.fault(name + ":" + name + ":", 4, 1);
        }
        for (String form : new String[] {"N:", "N", "nop N", ".equ N, 1", ".byte N", "jr N", "j N",
            ".space N", "l: N:", "N: N:", ".space -1 + N", "li a0, N", ".text N"}) {
            Check.fault("\n" + form.replace("N", NAME_32) + "\n", 1, 2);
            Check.fault("\n" + form.replace("N", NAME_32 + NAME_32) + "\n", 1, 2);
        }
        // A remark and a text have no names.
        Check.good("# " + NAME_32 + "\n.ascii \"" + NAME_32 + "\"");
        // Names of which one is the beginning of the other are two.
        Check.bytes(NAME_31 + ": .byte 1\n" + NAME_31.substring(0, 30) + ": .byte "
                + NAME_31.substring(0, 30) + "-" + NAME_31, "0101");
    }

    private static void testNameCharacters() {
        Check.says("letters, digits, _ . and $, the first one no digit");
        for (char c = 33; c < 127; c++) {
            boolean digit = c >= '0' && c <= '9';
            boolean first = c >= 'a' && c <= 'z' || c >= 'A' && c <= 'Z' || "_.$".indexOf(c) >= 0;
            if (first) {
                Check.good(c + ":");
                Check.good(c + "q:");
            }
            if (first || digit) {
                Check.same("letter", Check.assembled("q" + c + "q:").letter(0, 1), c);
                Check.good("q" + c + ":");
            }
            if (!first && c != '#') {
                Check.fault(c + "q:", 1, 1);
            }
            if (!first && !digit && c != '#' && c != ':') {
                Check.fault("q" + c + "q:", 2, 1);
            }
        }
    }

    private static void testNumbers() {
        Check.says("a NUMBER: .. below 2 to the 32");
        String ones = "1".repeat(32);
        String zeros = "0".repeat(100);
        String[] last = {"4294967295", "0xFFFFFFFF", "0xffffffff", "0b" + ones,
            zeros + "4294967295", "0x" + zeros + "FFFFFFFF", "0b" + zeros + ones};
        for (String number : last) {
            Check.value(number, -1);
            Check.word("li a0, " + number, "557d");
        }
        String[] above = {"4294967296", "0x100000000", "0b1" + "0".repeat(32), "4294967297",
            "9999999999", "18446744073709551616", "18446744073709551617", "0x10000000000000001",
            "0b1" + "0".repeat(64), "9".repeat(300), "0x" + "F".repeat(300), "0b" + "1".repeat(300)};
        for (String number : above) {
            Check.fault("\n.word " + number, 1, 2);
            Check.fault(".space " + number, 1, 1);
            Check.fault("jr " + number, 1, 1);
            Check.fault("nop " + number, 1, 1);
            Check.fault(".word 0 & " + number, 1, 1);
        }
        Check.value("2147483647", Integer.MAX_VALUE);
        Check.value("2147483648", Integer.MIN_VALUE);
        Check.value("0x7FFFFFFF", Integer.MAX_VALUE);
        Check.value("0x80000000", Integer.MIN_VALUE);
        Check.value("0", 0);
        Check.value("0x0", 0);
        Check.value("0b0", 0);
        Check.value(zeros, 0);
        Check.value("010", 10);
    }

    private static void testDigits() {
        Check.says("digits, or 0x and digits 0 .. 9 a .. f A .. F, or 0b and digits 0 and 1");
        for (int digit = 0; digit < 16; digit++) {
            String hex = Integer.toString(digit, 16);
            Check.value("0x" + hex, digit);
            Check.value("0x" + hex.toUpperCase(), digit);
            Check.value("0x" + hex + "0", 16 * digit);
            Check.value("0x1" + hex.toUpperCase(), 16 + digit);
            if (digit < 10) {
                Check.value("1" + digit, 10 + digit);
                Check.value(digit + "1", 10 * digit + 1);
            }
            if (digit > 1) {
                Check.fault(".word 0b" + hex, 1, 1);
                Check.fault(".word 0b1" + hex, 1, 1);
            }
        }
        // What stands beside the digits in the order of characters is none.
        for (String number : new String[] {"0x1/", "0x1:", "0x1@", "0x1G", "0x1`", "0x1g", "1/", "1:",
            "0b1/", "0b1:", "0x/", "0x:", "0x@", "0xG", "0x`", "0xg", "0b/", "0b:", "0x", "0x,1"}) {
            Check.fault(".word " + number, 1, 1);
        }
    }

    private static void testBehindNumbers() {
        Check.says("behind it no character of a name");
        String[] numbers = {"5", "55", "0x5", "0b1", "'a'", "1f", "1b", "'\\n'"};
        for (String number : numbers) {
            for (String next : new String[] {"_", ".", "$", "g", "z", "Z", "_5"}) {
                // Not even a fault of the number itself is told then.
                Check.fault("1: .align " + number + next + "\n1:", 1, 1);
                Check.fault("1: jr " + number + next + "\n1:", 1, 1);
                Check.fault("1: .word " + number + next + "\n1:", 1, 1);
            }
            for (String next : new String[] {"+1", "-1", "*1", "/1", "%1", "&1", "|1", "^1", "<<1",
                ">>1", ",1", "#", " ", "\t", "\n"}) {
                Check.good("1: .word " + number + next + "\n1:");
            }
            Check.good("1: .word (" + number + ")\n1:");
            Check.fault("1: .word " + number + "\"\"\n1:", 1, 1);
            Check.fault("1: .word " + number + "'a'\n1:", 1, 1);
        }
        Check.fault(".align 'a'5", 1, 1);
        Check.fault(".align 'a'", 6, 1);
        Check.fault(".align 55", 6, 1);
    }

    private static void testNear() {
        Check.says("a NEAR name: one digit, then f or b, likewise");
        for (int digit = 0; digit <= 9; digit++) {
            Check.bytes("nop\n" + digit + ": .byte " + digit + "b, " + digit + "f\n" + digit + ":",
                    "13000000" + "0406");
            Check.fault(".byte " + digit + "b", 8, 1);
            Check.fault(".byte " + digit + "f", 8, 1);
            Check.fault(digit + ": .byte " + (digit + 1) % 10 + "b", 8, 1);
            Check.fault(".byte " + (digit + 9) % 10 + "f\n" + digit + ":", 8, 1);
            Check.fault(digit + ": .space " + digit + "b", 5, 1);
            Check.fault(digit + ": jr " + digit + "b", 3, 1);
        }
        for (String near : new String[] {"11f", "11b", "00b", "1F", "1B", "1a", "1c", "1e", "1ff",
            "1bb", "1fb", "1f1", "0b2", "0bb", "0bf", "0ff", "0f0"}) {
            Check.fault("1: .word " + near + "\n1:", 1, 1);
        }
        // With digits behind it 0b is the beginning of a number.
        Check.bytes(".byte 0\n0: .byte 0b, 0b0, 0b1, 0b-1, (0b)", "00" + "01" + "00" + "01" + "00" + "01");
        Check.fault("1f:", 1, 1);
        Check.fault("1b: nop", 1, 1);
        Check.fault("1f", 1, 1);
    }

    private static void testQuoted() {
        Check.says("itself (9, 32 .. 126, but no \\, in ' ' no '), or \\ and one of n t 0 \\ ' \"");
        for (char c = 0; c < 127; c++) {
            if (c == 9 || c == 10 || c >= 32) {
                if (c == '\\' || c == '\'' || c == 10) {
                    Check.fault(".word '" + c + "'", 1, 1);
                } else {
                    Check.value("'" + c + "'", c);
                }
                int at = "nt0\\'\"".indexOf(c);
                if (at >= 0) {
                    Check.value("'\\" + c + "'", "\n\t\0\\'\"".charAt(at));
                } else {
                    Check.fault(".word '\\" + c + "'", 1, 1);
                }
            }
        }
        for (String none : new String[] {"''", "'", "'a", "'\\n", "'\\", "'ab'", "'\\nn'", "'\\00'",
            "'a\n'", "'\\\n'", "\\n", "a'", "'\\'"}) {
            Check.fault(".word " + none, 1, 1);
        }
    }

    private static void testTexts() {
        Check.says("a TEXT: in \" \", any characters");
        StringBuilder all = new StringBuilder("\t");
        StringBuilder hex = new StringBuilder("09");
        for (char c = 32; c < 127; c++) {
            if (c != '\\' && c != '"') {
                all.append(c);
                hex.append(Integer.toHexString(c));
            }
        }
        Check.bytes(".ascii \"" + all + "\"", hex.toString());
        Check.bytes(".asciz \"" + all + "\"", hex + "00");
        Check.bytes(".ascii \"\\n\\t\\0\\\\\\'\\\"\"", "0a09005c2722");
        Check.bytes(".ascii \"\"", "");
        Check.bytes(".asciz \"\"", "00");
        Check.bytes(".asciz \"\\0\"", "0000");
        Check.bytes(".ascii \"" + "x".repeat(3000) + "\"", "78".repeat(3000));
        for (char c = 32; c < 127; c++) {
            if ("nt0\\'\"".indexOf(c) < 0) {
                Check.fault(".ascii \"a\\" + c + "\"", 1, 1);
            }
        }
        for (String none : new String[] {"\"", "\"\\\"", "\"a", "\"a\n\"", "\"\\\n\"", "\"\\", "\"\"\"",
            "'a'", "\"a'"}) {
            Check.fault(".ascii " + none, 1, 1);
            Check.fault("\n.asciz " + none, 1, 2);
        }
    }

    private static void testLabels() {
        Check.says("LABELS, none or some: a name or a digit, and : behind it");
        Check.good("");
        Check.good("l:");
        Check.good("l :");
        Check.good("l\t: \t9 : 0:nop");
        Check.same("labels in one line", Check.assembled("a:b:c:d:0:1:e:").size(3), 5);
        for (String none : new String[] {":", "10:", "00:", "0x1:", "'1':", "\"l\":", "1f:", "-1:",
            "(l):", "l::", "1::", ":l:", "%:", "+:", ",:"}) {
            Check.fault(none, 1, 1);
            Check.fault("nop\nm: " + none + " nop", 1, 2);
        }
        StringBuilder many = new StringBuilder();
        for (int i = 0; i < 1000; i++) {
            many.append("a").append(i < 1 ? "" : Integer.toString(i + 7, 36)).append(':');
        }
        Check.same("a thousand labels", Check.assembled(many.toString()).size(3), 1000);
        Check.same("digits have no names", Check.assembled("1:".repeat(2000)).size(3), 0);
    }

    private static void testRegisters() {
        Check.says("REGISTERS have the names x0 .. x31 .. No other thing has one of these names");
        for (String name : "x0 x9 x10 x31 zero ra sp gp tp t0 t2 t3 t6 s0 s1 s2 s11 a0 a7 fp".split(" ")) {
            Check.good("jr " + name);
            Check.fault(name + ":", 4, 1);
            Check.fault(".equ " + name + ", 1", 4, 1);
            Check.fault(name, 2, 1);
            Check.fault(".word " + name, 8, 1);
            Check.fault(".space " + name, 5, 1);
        }
        for (String name : "x x32 x00 x01 x031 x99 x100 X0 a8 a t7 t s12 s Zero zer0 fp0 pc x1_".split(" ")) {
            Check.fault("jr " + name, 3, 1);
            Check.good(name + ": j " + name);
            Check.good(".equ " + name + ", 1");
            Check.fault(".word " + name, 8, 1);
        }
    }
}
