/** Promise 4: the text's lines, blanks, remarks and tokens. */
final class TokenTest {
    public static void main(String[] args) {
        testBlanks();
        testNames();
        testNumbers();
        testQuoted();
        testTexts();
        testLabels();
        testSigns();
        Check.end();
    }

    private static void testBlanks() {
        Check.word("\t add\ta0 , a1\t,a2 \t", "00c58533");
        Check.word("add a0,a1,a2# no more ; \" '", "00c58533");
        Check.word("#\n # a\nlw a0,4 ( a1 )#", "0045a503");
        Check.word(".word 1<<4", "00000010");
        Check.fault(".word 1< <4", 1, 1);
        Check.fault("ad d a0,a1,a2", 2, 1);
        Check.fault("adda0,a1,a2", 2, 1);
        Check.fault("add a0,a1,a 2", 3, 1);
        Check.fault(".word 1 2", 1, 1);
        Check.fault(".word 0 x1", 1, 1);
        Check.fault("add a0,\na1,a2", 1, 1);
        Check.bytes(".word 1 % 1", "00000000");
        Check.bytes(".byte % hi ( 4096 )", "01");
    }

    private static void testNames() {
        String longest = "abcdefghijklmnopqrstuvwxyzABCDE";
        Check.same("its letters", longest.length(), 31);
        Check.same(longest, Check.name(Check.assembled(longest + ":"), 0), longest);
        Check.fault(longest + "F:", 1, 1);
        Check.fault(".word " + longest + "F", 1, 1);
        Check.fault("jr " + longest + "F", 1, 1);
        Check.fault("jr " + longest, 3, 1);
        Check.fault("nop " + longest + "F\nnop", 1, 1);
        Check.fault(longest + "F\nnop", 1, 1);
        Check.fault(longest + "\nnop", 2, 1);
        LineAssembler x = Check.assembled("_.$aZ09: $: _: .: ..: A: a: add: .word: hi:f:b1:");
        String[] due = {"_.$aZ09", "$", "_", ".", "..", "A", "a", "add", ".word", "hi", "f", "b1"};
        for (int k = 0; k < due.length; k++) {
            Check.same("name " + k, Check.name(x, k), due[k]);
        }
        Check.fault("a@b:", 2, 1);
        Check.fault("@b:", 1, 1);
        Check.fault("a-b:", 2, 1);
    }

    private static void testNumbers() {
        Check.value("0", 0);
        Check.value("00012", 12);
        Check.value("4294967295", -1);
        Check.value("0000000000000000000000000000004294967295", -1);
        Check.value("0xFfFfFfFf", -1);
        Check.value("0x0000000000000aBcDeF9", 0xABCDEF9);
        Check.value("0b101", 5);
        Check.value("0b11111111111111111111111111111111", -1);
        Check.fault(".word 4294967296", 1, 1);
        Check.fault(".word 99999999999999999999999999999999", 1, 1);
        Check.fault(".word 0x100000000", 1, 1);
        Check.fault(".word 0b100000000000000000000000000000000", 1, 1);
        String[] wrong = {"0x", "0xg", "0x1g", "0X1", "0b2", "0b12", "0bb", "0B1", "1a", "12f",
            "1ff", "1f2", "1b_", "5.", "5$", "5_", "08x", "9f.", "1F", "0f0", "0b1f", "0x1.5"};
        for (String number : wrong) {
            Check.fault(".word " + number, 1, 1);
            Check.fault("jr " + number, 1, 1);
            Check.fault("nop " + number + "\nnop", 1, 1);
        }
    }

    private static void testQuoted() {
        Check.value("'a'", 97);
        Check.value("' '", 32);
        Check.value("'\t'", 9);
        Check.value("'#'", 35);
        Check.value("'\"'", 34);
        Check.value("'~'", 126);
        Check.value("'\\n'", 10);
        Check.value("'\\t'", 9);
        Check.value("'\\0'", 0);
        Check.value("'\\\\'", 92);
        Check.value("'\\''", 39);
        Check.value("'\\\"'", 34);
        Check.value("'1'+'2'", 99);
        String[] wrong = {"''", "'''", "'\\'", "'ab'", "'a", "'", "'\\a'", "'\\", "'a'b", "'a'1",
            "'a'_", "' a '", "'\n'", "'\\N'", "'\\1'"};
        for (String quoted : wrong) {
            Check.fault(".word " + quoted, 1, 1);
            Check.fault("nop " + quoted + "\nnop", 1, 1);
        }
        Check.fault("'1': nop", 1, 1);
    }

    private static void testTexts() {
        Check.bytes(".ascii \"\"", "");
        Check.bytes(".asciz \"\"", "00");
        Check.bytes(".ascii \"a# '\t~\"", "612320" + "27" + "09" + "7e");
        Check.bytes(".ascii \"\\n\\t\\0\\\\\\'\\\"\" # \"", "0a09005c2722");
        Check.bytes(".ascii \"a\",\"b\" , \"\" ,\"c\"", "616263");
        Check.bytes(".asciz \"a\",\"b\" , \"\" ,\"c\"", "6100620000" + "6300");
        String[] wrong = {"\"", "\"a", "\"a\nb\"", "\"\\a\"", "\"\\\"", "\"a\\", "'a'", "5", "a",
            "", ",", "\"a\",", "\"a\" \"b\"", "\"a\"b", "\"a\"\"b\"", "(\"a\")", "\"a\"+1"};
        for (String text : wrong) {
            Check.fault(".ascii " + text, 1, 1);
            Check.fault(".asciz " + text, 1, 1);
        }
        Check.fault(".word \"a\"", 1, 1);
        Check.fault("\"a\": nop", 1, 1);
        Check.fault("jr \"a\"", 3, 1);
        Check.fault("jr \"a", 1, 1);
        Check.fault("nop \"a\nnop", 1, 1);
        Check.fault("nop \"\\a", 1, 1);
    }

    private static void testLabels() {
        LineAssembler x = Check.assembled("a:b :\tc\t: 1:2 :1: nop\nd:\ne:");
        Check.same("labels with names", x.size(3), 5);
        Check.same("address of c", x.address(2), 0);
        Check.same("address of e", x.address(4), 4);
        Check.fault(": nop", 1, 1);
        Check.fault("\n: nop", 1, 2);
        Check.fault("nop\n\n: nop", 1, 3);
        Check.fault("a:: nop", 1, 1);
        Check.fault("12: nop", 1, 1);
        Check.fault("01: nop", 1, 1);
        Check.fault("0x1: nop", 1, 1);
        Check.fault("1f: nop", 1, 1);
        Check.fault("0b: nop", 1, 1);
        Check.fault("1 nop", 1, 1);
        Check.fault("nop a:", 1, 1);
        Check.fault("a: nop b: nop", 1, 1);
        Check.fault("a\n: nop", 2, 1);
    }

    private static void testSigns() {
        for (char c = 33; c < 127; c++) {
            boolean sign = ":,()+-*/%&|^~".indexOf(c) >= 0;
            boolean name = Character.isLetter(c) || "_.$".indexOf(c) >= 0;
            if (!Character.isDigit(c) && c != '#') {
                Check.fault(c + ", nop", name && c != 'j' ? 2 : 1, 1);
                Check.fault("mv a0, " + c, name || sign ? 3 : 1, 1);
            }
        }
    }
}
