/** The boundary cases of expressions: ints that go round, divisors, shifts, depth, what is fixed. */
final class EdgeExpressionTest {
    private static final int MIN = Integer.MIN_VALUE;
    private static final int MAX = Integer.MAX_VALUE;
    /** Numbers at the ends of what an int holds, and of its fields. */
    private static final int[] ENDS = {0, 1, -1, 2, -2, 31, 32, 33, 2047, 2048, -2048, -2049, 4095,
        4096, 65535, 65536, MAX, MAX - 1, MIN, MIN + 1};

    public static void main(String[] args) {
        testRound();
        testDivision();
        testShifts();
        testParts();
        testSigns();
        testOrder();
        testDepth();
        testHere();
        testNear();
        testNames();
        testFixed();
        Check.end();
    }

    /** What a line of .word makes of each expression. */
    private static void values(String[] expressions, int[] due) {
        StringBuilder hex = new StringBuilder();
        for (int value : due) {
            hex.append(String.format("%08x", Integer.reverseBytes(value)));
        }
        Check.bytes(".word " + String.join(", ", expressions), hex.toString());
    }

    private static void testRound() {
        Check.says("All are ints that go round");
        for (int a : ENDS) {
            for (int b : ENDS) {
                values(new String[] {a + "+" + b, a + "-" + b, a + "*" + b, a + "&" + b, a + "^" + b,
                    a + "|" + b}, new int[] {a + b, a - b, a * b, a & b, a ^ b, a | b});
            }
            values(new String[] {"-(" + a + ")", "~(" + a + ")"}, new int[] {-a, ~a});
        }
        Check.value("0x7FFFFFFF + 1", MIN);
        Check.value("0x80000000 - 1", MAX);
        Check.value("-0x80000000", MIN);
        Check.value("4294967295 + 1", 0);
        Check.value("0x80000000 * 2", 0);
        Check.value("65536 * 65536", 0);
        Check.value("0x7FFFFFFF * 0x7FFFFFFF", 1);
        // Constants go round too.
        Check.bytes(".equ k, 0x7FFFFFFF\n.equ m, k + 1\n.word m, m - 1", "00000080" + "ffffff7f");
    }

    private static void testDivision() {
        Check.says("/ and % towards 0");
        for (int a : ENDS) {
            for (int b : ENDS) {
                String divisor = "(" + b + ")";
                if (b == 0) {
                    Check.fault(".word " + a + "/" + divisor, 9, 1);
                    Check.fault(".word " + a + "%" + divisor, 9, 1);
                } else {
                    // -2147483648 / -1 goes round to itself.
                    values(new String[] {a + "/" + divisor, a + "%" + divisor},
                            new int[] {(int) ((long) a / b), (int) ((long) a % b)});
                }
            }
        }
        Check.value("-1/2", 0);
        Check.value("-3/2", -1);
        Check.value("-3%2", -1);
        Check.value("3%-2", 1);
        Check.value("0x80000000/-1", MIN);
        Check.value("0x80000000%-1", 0);
        Check.fault(".word 0/0", 9, 1);
        Check.fault(".word 1/(65536*65536)", 9, 1);
        Check.fault(".word 0*(1/0)", 9, 1);
        Check.fault("l: .word 1/l", 9, 1);
        Check.good("nop\nl: .word 1/l");
        Check.fault("l: .word 1%(.-l)", 9, 1);
    }

    private static void testShifts() {
        Check.says("<< and >> (with sign) by the lowest five bits");
        for (int by : new int[] {0, 1, 30, 31, 32, 33, 63, 64, -1, -31, -32, -33, MIN, MAX}) {
            for (int a : new int[] {1, -1, MIN, MAX, 0x12345678}) {
                int bits = by & 31;
                values(new String[] {a + "<<" + by, a + ">>" + by},
                        new int[] {(int) ((long) a << bits), (int) ((long) a >> bits)});
            }
        }
        Check.value("1<<31", MIN);
        Check.value("1<<32", 1);
        Check.value("1<<-1", MIN);
        Check.value("0x80000000>>31", -1);
        Check.value("0x80000000>>32", MIN);
        Check.value("3<<31", MIN);
    }

    private static void testParts() {
        Check.says("%hi is (e + 2048) >>> 12, %lo e << 20 >> 20");
        int[][] due = {{0, 0, 0}, {1, 0, 1}, {-1, 0, -1}, {2047, 0, 2047}, {2048, 1, -2048},
            {4095, 1, -1}, {4096, 1, 0}, {-2048, 0, -2048}, {-2049, 0xFFFFF, 2047},
            {-4096, 0xFFFFF, 0}, {MAX, 0x80000, -1}, {0x7FFFF7FF, 0x7FFFF, 2047},
            {0x7FFFF800, 0x80000, -2048}, {MIN, 0x80000, 0}};
        for (int[] row : due) {
            values(new String[] {"%hi(" + row[0] + ")", "%lo(" + row[0] + ")"},
                    new int[] {row[1], row[2]});
        }
        for (int e : ENDS) {
            Check.value("(%hi(" + e + ")<<12) + %lo(" + e + ")", e);
        }
        Check.good("lui a0, %hi(-1)\nlui a0, %hi(0x7FFFFFFF)\naddi a0, a0, %lo(2048)");
        for (String wrong : new String[] {"%hi", "%lo", "%hi 1", "%hi(", "%hi()", "%hi(1", "%Hi(1)",
            "%h(1)", "%hii(1)", "%(1)", "%1", "% ", "%%", "%hi((1)", "hi(1)", "%hi(1)(1)"}) {
            Check.fault(".word " + wrong, 1, 1);
        }
        Check.says("(a % behind an operand is the sign)");
        Check.bytes(".equ hi, 4\n.equ lo, 5\n.byte 7 %hi, 7 %lo, 7%%lo(4), (7)%hi, 'a' %hi", "0302030301");
        Check.fault(".equ hi, 4\n.byte 7 %hi(4)", 1, 2);
        Check.fault(".byte 7 %hi", 8, 1);
        Check.word(".equ hi, 4\nlw a0, 7 %hi(a1)", "0035a503");
    }

    private static void testSigns() {
        Check.says("- and ~ before one, one or more");
        Check.value("-1", -1);
        Check.value("--1", 1);
        Check.value("~~1", 1);
        Check.value("-~1", 2);
        Check.value("~-1", 0);
        Check.value("- ~ - ~ 1", 3);
        Check.value("-".repeat(2000) + "7", 7);
        Check.value("~".repeat(2001) + "7", -8);
        Check.value("-~".repeat(1000) + "7", 1007);
        Check.value("3 - -3", 6);
        Check.value("3*-3", -9);
        Check.value("1<<-31", 2);
        Check.value("-(1)", -1);
        Check.value("-%lo(1)", -1);
        Check.bytes(".equ k, 5\nl: .byte -k, ~k, -l, -., -'a'", "fbfa" + "00" + "00" + "9f");
        Check.fault(".word -", 1, 1);
        Check.fault(".word 1-", 1, 1);
        Check.fault(".word ~", 1, 1);
        Check.fault(".word 1~", 1, 1);
        Check.fault(".word 1~1", 1, 1);
        Check.fault(".word +1", 1, 1);
        Check.fault(".word -+1", 1, 1);
        Check.fault(".word 1++1", 1, 1);
    }

    private static void testOrder() {
        Check.says("* / %, + -, << >>, &, ^, |, those of one sort from the left");
        // Each next to the one that is done after it, on both sides.
        Check.value("1+2*3", 7);
        Check.value("2*3+1", 7);
        Check.value("9-8/4", 7);
        Check.value("9-8%3", 7);
        Check.value("1<<2+1", 8);
        Check.value("1+2<<1", 6);
        Check.value("16>>3-1", 4);
        Check.value("7&1<<1", 2);
        Check.value("1<<1&3", 2);
        Check.value("6^3&1", 7);
        Check.value("1&3^6", 7);
        Check.value("1|1^1", 1);
        Check.value("1^1|1", 1);
        Check.value("24/4*2", 12);
        Check.value("24*4/2", 48);
        Check.value("24%10/2", 2);
        Check.value("9-4-3", 2);
        Check.value("9-4+3", 8);
        Check.value("64>>2<<1", 32);
        Check.value("64<<2>>1", 128);
        Check.value("-7%4", -3);
        Check.value("~1&3", 2);
    }

    private static void testDepth() {
        Check.says("( e ), as deep as may be");
        Check.value("(1)", 1);
        Check.value("((1))", 1);
        for (int deep : new int[] {1, 40, 300, 1500}) {
            Check.value("(".repeat(deep) + "5" + ")".repeat(deep), 5);
            Check.value("-(".repeat(deep) + "5" + ")".repeat(deep), deep % 2 == 0 ? 5 : -5);
            Check.word("li a0, " + "(".repeat(deep) + "5" + ")".repeat(deep), "4515");
            Check.fault(".word " + "(".repeat(deep) + "5" + ")".repeat(deep - 1), 1, 1);
            Check.fault(".word " + "(".repeat(deep) + "5" + ")".repeat(deep + 1), 1, 1);
            Check.fault(".word " + "(".repeat(deep), 1, 1);
        }
        Check.value("1|2^(".repeat(600) + "4" + ")".repeat(600), deepValue(600));
        Check.value("1+".repeat(1500) + "1", 1501);
        Check.fault(".word ()", 1, 1);
        Check.fault(".word )", 1, 1);
        Check.fault(".word )(", 1, 1);
    }

    private static int deepValue(int deep) {
        int value = 4;
        for (int i = 0; i < deep; i++) {
            value = 1 | 2 ^ value;
        }
        return value;
    }

    private static void testHere() {
        Check.says(". the address at which the statement begins");
        Check.bytes(".byte .", "00");
        Check.bytes(".byte 9, ., .\nl: .half ., .", "090000" + "0300" + "0300");
        Check.bytes(".data\n.byte 9\n.half .", "09" + "0100");
        Check.bytes(".byte 9\n.align 2\n.byte .", "09000000" + "04");
        Check.says("(a label or constant may have that name, but isn't read by it)");
        Check.bytes("nop\n.:\nnop\n.byte .", "13000000" + "13000000" + "08");
        Check.bytes(".equ ., 77\n.byte .", "00");
        Check.fault(".: .:", 4, 1);
        Check.fault(".equ ., 1\n.:", 4, 2);
        Check.fault(".equ ., 1\n.space .", 5, 2);
        Check.same("its name", Check.name(Check.assembled(".:"), 0), ".");
    }

    private static void testNear() {
        Check.says("1f the next label 1 (in the text) behind the statement");
        Check.bytes(".byte 1f\n1:", "01");
        Check.bytes("1: .byte 1f\n1:\n1: .byte 0\n1:", "0100");
        Check.bytes(".byte 1f\n2:\n.byte 0\n1:", "0200");
        Check.bytes(".byte 1f, 1f\n.data\n.text\n1:", "0202");
        Check.fault("1: .byte 1f", 8, 1);
        Check.fault("1: 1:\n1: .byte 1f\n2:", 8, 2);
        Check.says("1b the latest one before it (in its line, too)");
        Check.bytes("nop\n1: .byte 1b", "13000000" + "04");
        Check.bytes("1: nop\n1: nop\n.byte 1b\n1:", "13000000" + "13000000" + "04");
        Check.bytes("1: nop\n1: 1: .byte 1b", "13000000" + "04");
        Check.fault(".byte 1b\n1:", 8, 1);
        Check.fault("2: .byte 1b\n1: .byte 1b", 8, 1);
    }

    private static void testNames() {
        Check.says("(A register's name in an e is one that there is not.)");
        Check.fault(".word zero", 8, 1);
        Check.fault(".word 1 + t6", 8, 1);
        Check.fault("j ra", 8, 1);
        Check.fault("la a0, a0", 8, 1);
        Check.fault("addi a0, a0, a0", 8, 1);
        Check.fault("beqz a0, a0", 8, 1);
        Check.fault("lw a0, a0(a0)", 8, 1);
        Check.fault(".align x0", 5, 1);
    }

    private static void testFixed() {
        Check.says("FIXED: without labels, near names and ., all its names being constants defined above");
        for (String form : new String[] {".equ q, E", ".space E", ".align E", "li a0, E"}) {
            Check.good(".equ k, 1\n" + form.replace("E", "k"));
            Check.good(".equ k, 1\n.equ m, k\n" + form.replace("E", "m*(k)"));
            for (String e : new String[] {".", "l", "1b", "1f", "k", "u", "a0", "l-l", ".-.", "0*l",
                "1b-1b", "%hi(l)", "-.", "(1f)", "1+k"}) {
                Check.fault("1: l: " + form.replace("E", e) + "\n1: .equ k, 1", 5, 1);
            }
        }
        Check.fault(".equ k, k", 5, 1);
        Check.fault(".equ k, 1 + k", 5, 1);
        // Nothing else has to be fixed.
        Check.bytes(".byte k, l\n.equ k, 1\nl:", "0102");
    }
}
