/** Promise 4: expressions. */
final class ExpressionTest {
    public static void main(String[] args) {
        testSigns();
        testOrder();
        testRound();
        testParts();
        testNames();
        testNear();
        testDepth();
        testFixed();
        testWrong();
        Check.end();
    }

    private static void testSigns() {
        Check.value("6*7", 42);
        Check.value("-7/2", -3);
        Check.value("7/-2", -3);
        Check.value("-7%2", -1);
        Check.value("7%-2", 1);
        Check.value("7-9", -2);
        Check.value("1<<31", Integer.MIN_VALUE);
        Check.value("-16>>2", -4);
        Check.value("1<<33", 2);
        Check.value("16>>-31", 8);
        Check.value("12&10", 8);
        Check.value("12^10", 6);
        Check.value("12|10", 14);
        Check.value("~5", -6);
        Check.value("- - 5", 5);
        Check.value("-~-~5", 7);
        Check.value("3--2", 5);
        Check.value("3-~2", 6);
    }

    private static void testOrder() {
        Check.value("2+3*4", 14);
        Check.value("(2+3)*4", 20);
        Check.value("100/10/5", 2);
        Check.value("100/(10/5)", 50);
        Check.value("10-4-3", 3);
        Check.value("2*7%4", 2);
        Check.value("7%4*2", 6);
        Check.value("1+1<<2+1", 16);
        Check.value("256>>2<<1", 128);
        Check.value("6&1<<2", 4);
        Check.value("1^3&2", 3);
        Check.value("8|1^9", 8);
        Check.value("1|2^3&4<<1+2*3", 1 | 2 ^ 3 & 4 << 1 + 2 * 3);
        Check.value("5*4+3<<2&60^7|8", 5 * 4 + 3 << 2 & 60 ^ 7 | 8);
        Check.value("-2*3", -6);
        Check.value("~1+1", -1);
        Check.value("-(2+3)", -5);
        Check.value("2*-3", -6);
        Check.value("(1|2)*4", 12);
        Check.value("(1|2^3)*(4&6|8)", (1 | 2 ^ 3) * (4 & 6 | 8));
        Check.value("-(1|2)<<(1|1)", -6);
    }

    private static void testRound() {
        Check.value("0x7FFFFFFF+1", Integer.MIN_VALUE);
        Check.value("0x10000*0x10000", 0);
        Check.value("0x80000000/-1", Integer.MIN_VALUE);
        Check.value("0x80000000%-1", 0);
        Check.value("-0x80000000", Integer.MIN_VALUE);
        Check.value("0xFFFFFFFF/2", 0);
        Check.value("0xFFFFFFFF>>31", -1);
    }

    private static void testParts() {
        Check.value("%hi(0x12345800)", 0x12346);
        Check.value("%hi(0x123457FF)", 0x12345);
        Check.value("%hi(-1)", 0);
        Check.value("%hi(0x7FFFFFFF)", 0x80000);
        Check.value("%hi(-4096)", 0xFFFFF);
        Check.value("%lo(0x12345800)", -2048);
        Check.value("%lo(0x123457FF)", 2047);
        Check.value("-%lo(5)+%hi(8192)", -3);
        Check.value("~%lo(5)", -6);
        Check.value("7%%lo(4)", 3);
        Check.value("7 % -%lo(4)", 3);
        Check.value("%hi(%lo(5)<<12)*2", 10);
        // Behind an operand the % is the sign, and hi a name.
        Check.bytes(".equ hi, 3\n.byte 5 %hi+1, 5 %hi % 2, 5 % %hi(12288)", "030002");
    }

    private static void testNames() {
        Check.bytes(".equ k, 5\n.equ m, k*k\n.byte k, m, m%k", "051900");
        Check.bytes("nop\nl: .byte l, m, . - l, .\nm:", "13000000" + "04080004");
        Check.bytes(".byte k\n.equ k, 7", "07");
        Check.bytes("nop\n.: .byte .\n .byte .", "13000000" + "0405");
        Check.bytes(".equ ., 9\n.byte 1, .", "0100");
        Check.bytes("nop\nadd: .word: .byte add + .word", "13000000" + "08");
        Check.fault(".byte a0", 8, 1);
        Check.fault(".byte nop", 8, 1);
        Check.fault(".byte K\n.equ k, 1", 8, 1);
    }

    private static void testNear() {
        Check.bytes("1: .byte 1b, 1f\n1: .byte 1b, 1f\n1:", "00020204");
        Check.bytes("nop\n0: 9: .byte 0b, 0f, 9b\n0:", "13000000" + "040704");
        // The order is the text's, whatever the sections are.
        Check.bytes(".half 1f\n.data\n1: .half 1b\n.text\n.half 1f\n1:",
                "00040400" + "00".repeat(1020) + "0004");
        Check.bytes("1: 1: .byte 1f - 1b\n.byte 0\n1: 2:", "0200");
        Check.fault("1: .byte 1f", 8, 1);
        Check.fault(".byte 1b\n1:", 8, 1);
        Check.fault("2: .byte 1b", 8, 1);
        Check.fault("nop\n.byte 0b1, 0b", 8, 2);
    }

    private static void testDepth() {
        String deep = "(".repeat(1900) + "5" + ")".repeat(1900);
        Check.value(deep, 5);
        Check.value("-".repeat(3801) + "5", -5);
        Check.fault(".word " + deep + ")", 1, 1);
        Check.fault(".word (" + deep, 1, 1);
        Check.value("1" + "+(1".repeat(900) + ")".repeat(900), 901);
        Check.value("%hi(".repeat(600) + "-1" + ")".repeat(600), 0);
    }

    private static void testFixed() {
        String[] fixed = {".equ k, ", ".space ", ".align ", "li a0, "};
        for (String statement : fixed) {
            Check.fault(statement + "1+(2*1)", 0, 0);
            Check.fault(statement + "1 + .", 5, 1);
            Check.fault("l: " + statement + "l", 5, 1);
            Check.fault("l: " + statement + "l-l", 5, 1);
            Check.fault("1: " + statement + "1b", 5, 1);
            Check.fault(statement + "m\n.equ m, 1", 5, 1);
            Check.fault(".equ m, 1\n" + statement + "m", 0, 0);
            Check.fault(statement + "a0", 5, 1);
            Check.fault(statement + "1/0", 9, 1);
            Check.fault(statement + "1%(1-1)", 9, 1);
            Check.fault(statement + "m/0", 5, 1);
            Check.fault(statement + "m/0+", 1, 1);
        }
        Check.fault(".equ x, x", 5, 1);
        Check.fault(".equ ., 1\n.equ y, .", 5, 2);
    }

    private static void testWrong() {
        String[] wrong = {"", "+1", "*1", "1+", "1+*2", "()", "(", ")", "(1", "1)", "1 1", "1~2",
            "1,", ",1", "1,,2", "%hi", "%hi 5", "%hi(5", "%hi()", "%ha(5)", "%5", "1(2)", "(1)(2)",
            "1:", "-", "~", "1<2", "1>2", "1<<<2", "1=2", "!1", "%(hi)(5)", "%%hi(5)", "1 \"a\"",
            "1+\"a\"", "1f1", "&1", "1&&1", "1||1", "**1", "//", "(1,2)", "-(1", "1-", "1-)"};
        for (String e : wrong) {
            Check.fault(".word " + e, 1, 1);
            Check.fault("addi a0, a0, " + e, 1, 1);
            Check.fault("li a0, " + e, 1, 1);
        }
        // hi and lo are names but behind a % before an operand; the e ends in front of the bracket.
        for (String e : new String[] {"hi(5)", "5 %hi(3)", "lo (5)"}) {
            Check.fault(".word " + e, 1, 1);
            Check.fault("li a0, " + e, 5, 1);
        }
    }
}
