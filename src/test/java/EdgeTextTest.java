/** The boundary cases of the text, its characters, lines, blanks and remarks. */
final class EdgeTextTest {
    private static final long BLANKS = 0x2020202020202020L;

    public static void main(String[] args) {
        testLongest();
        testLongestInTime();
        testCharacters();
        testLines();
        testBlanks();
        testRemarks();
        Check.end();
    }

    private static void feed(LineAssembler x, long chars, int n, boolean due) {
        Check.same("feed(" + chars + ", " + n + ")", x.feed(chars, n) ? 1 : 0, due ? 1 : 0);
    }

    /** So many blanks, in as few calls as can be. */
    private static LineAssembler filled(int many) {
        LineAssembler x = new LineAssembler();
        for (int i = 0; i < many / 8; i++) {
            x.feed(BLANKS, 8);
        }
        if (many % 8 > 0) {
            x.feed(BLANKS, many % 8);
        }
        return x;
    }

    /** These take more calls than an object is promised for: no fewer fill the text. */
    private static void testLongest() {
        Check.says("THE TEXT has at most 65536 characters");
        for (int free = 0; free <= 9; free++) {
            for (int n = 1; n <= 8; n++) {
                LineAssembler x = filled(65536 - free);
                feed(x, BLANKS, n, n <= free);
                Check.same("clear", x.clear(), 65536 - free + (n <= free ? n : 0));
                feed(x, BLANKS, 8, true);
            }
        }
        // What is refused leaves the text as it was: there is still room for less.
        LineAssembler x = filled(65529);
        feed(x, BLANKS, 8, false);
        feed(x, 0x0A0A0A0A0A0A3BL, 7, true);
        feed(x, BLANKS, 1, false);
        Check.same("a fault in the full text's last line", x.assemble(), 1 + 16 * 7);
        Check.same("clear", x.clear(), 65536);
        for (int i = 0; i < 8191; i++) {
            x.feed(0x0A0A0A0A0A0A0A0AL, 8);
        }
        feed(x, 0x0A0A0A0A0A0A0A3BL, 8, true);
        Check.same("a fault in the last line of most lines", x.assemble(), 1 + 16 * 65536);
    }

    private static void testLongestInTime() {
        Check.says("An object is used for at most 512 calls");
        LineAssembler x = new LineAssembler();
        for (int i = 0; i < 509; i++) {
            feed(x, 0x6E6F700A6E6F700AL, 8, true);
        }
        Check.same("assemble of 1018 lines", x.assemble(), 0);
        Check.same("size", x.size(0), 4072);
        Check.same("the last line", x.line(4071), 1018);
        // The same many times over.
        LineAssembler y = Check.fed("l: j m\n.space 32764\nm:");
        for (int i = 0; i < 500; i++) {
            Check.same("assemble again", y.assemble(), 0);
        }
        Check.same("size", y.size(2), 32768);
    }

    private static void testCharacters() {
        Check.says("9, 10 and 32 .. 126");
        int[] good = {9, 10, 32, 33, 125, 126};
        int[] bad = {0, 1, 8, 11, 12, 13, 30, 31, 127, 128, 137, 138, 160, 254, 255};
        for (int place = 0; place < 8; place++) {
            for (int c : good) {
                expectFed(c, place, true);
            }
            for (int c : bad) {
                expectFed(c, place, false);
            }
        }
    }

    private static void expectFed(int c, int place, boolean due) {
        LineAssembler x = new LineAssembler();
        feed(x, 0x61L, 1, true);
        feed(x, BLANKS & ~(255L << 8 * place) | (long) c << 8 * place, 8, due);
        Check.same("clear after " + c, x.clear(), due ? 9 : 1);
    }

    private static void testLines() {
        Check.says("10 ends a LINE (numbered from 1)");
        Check.fault("foo", 2, 1);
        Check.fault("foo\n", 2, 1);
        Check.fault("\nfoo", 2, 2);
        Check.fault("nop\nfoo\n\n", 2, 2);
        Check.fault("nop\n\n\n", 0, 0);
        Check.fault("nop\n;", 1, 2);
        Check.same("line 1", Check.assembled("nop").line(0), 1);
        Check.same("line 2", Check.assembled("\nnop\n").line(0), 2);
        // A line that ends too early is told with its own number, not the next one's.
        Check.fault("add a0,\n a1, a2", 1, 1);
        Check.fault("jalr\n", 1, 1);
        Check.fault("jalr\nra", 1, 1);
        Check.fault("lw a0, 1(\nsp)", 1, 1);
        Check.fault(".word (1\n)", 1, 1);
        Check.fault(".ascii \"a\n\"", 1, 1);
        Check.fault(".word '\n'", 1, 1);
        Check.fault("\n.equ k\n, 1", 1, 2);
        Check.fault("\nl\n:", 2, 2);
    }

    private static void testBlanks() {
        Check.says("BLANKS: they stand between tokens or not, and end what is in front of them");
        Check.good(" ");
        Check.good("\t");
        Check.good("\t \n \t");
        Check.word("\t\taddi  a0\t,\t a1 ,\t- \t5\t", "ffb58513");
        Check.word("addi a0,a1,-5", "ffb58513");
        Check.word("l:addi a0,a1,-5", "ffb58513");
        Check.bytes("l:.byte'a',-1,~(2),%lo(3)", "61fffd03");
        Check.bytes(".ascii\"a\",\"b\"", "6162");
        Check.fault(".word 1 0", 1, 1);
        Check.fault(".word 1\t0", 1, 1);
        Check.fault(".word 0x 1", 1, 1);
        Check.fault(".word 1 f\n1:", 1, 1);
        Check.fault(".word 1 > > 1", 1, 1);
        Check.fault(".word 1 <\t< 1", 1, 1);
        Check.fault("no p", 2, 1);
        Check.fault("jr a 0", 3, 1);
        Check.fault(". space 1", 2, 1);
        Check.fault("c .nop", 2, 1);
    }

    private static void testRemarks() {
        Check.says("From a # on (but in quotes) a line says nothing");
        Check.good("#");
        Check.good("#\n");
        Check.good("# ;'\"\\ \n");
        Check.good("##\n#");
        Check.good("nop#");
        Check.good("l:#nop:");
        Check.fault("#\nfoo#", 2, 2);
        Check.fault("add a0, a1#, a2", 1, 1);
        Check.fault(".word 1 + # 1", 1, 1);
        Check.bytes(".byte '#' # '#'\n.byte 1", "2301");
        Check.bytes(".ascii \"#\", \"a#b\" # \"\n.byte 1", "2361236201");
        Check.fault(".byte '#\n", 1, 1);
        Check.fault(".ascii \"#\n", 1, 1);
        Check.fault(".ascii \"#", 1, 1);
    }
}
