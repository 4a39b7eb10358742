/** Promise 2: the n lowest bytes of chars, the highest of them first, or a refusal. */
final class FeedTest {
    private static void feed(LineAssembler x, long chars, int n, boolean due) {
        Check.same("feed(" + chars + ", " + n + ")", x.feed(chars, n) ? 1 : 0, due ? 1 : 0);
    }

    public static void main(String[] args) {
        testOrder();
        testCounts();
        testCharacters();
        testWhole();
        testLongest();
        Check.end();
    }

    private static void testOrder() {
        LineAssembler x = new LineAssembler();
        feed(x, 0x2E627974L, 4, true);
        feed(x, 0x6520373931L, 5, true);
        Check.same("assemble of .byte 791", x.assemble(), 0);
        Check.same("byteAt(0)", x.byteAt(0), 791 & 255);
        // What lies above the n lowest bytes says nothing.
        LineAssembler y = new LineAssembler();
        feed(y, 0xFFFFFF0061626364L, 4, true);
        feed(y, 0x8000000000003A20L, 2, true);
        Check.same("assemble of abcd:", y.assemble(), 0);
        Check.same("its label", Check.name(y, 0), "abcd");
        Check.same("clear", y.clear(), 6);
    }

    private static void testCounts() {
        LineAssembler x = new LineAssembler();
        feed(x, 0x2020202020202020L, 0, false);
        feed(x, 0x2020202020202020L, -1, false);
        feed(x, 0x2020202020202020L, 9, false);
        feed(x, 0x2020202020202020L, Integer.MIN_VALUE, false);
        feed(x, 0x2020202020202020L, Integer.MAX_VALUE, false);
        Check.same("clear after refusals", x.clear(), 0);
        for (int n = 1; n <= 8; n++) {
            feed(x, 0x2020202020202020L, n, true);
            Check.same("clear after n = " + n, x.clear(), n);
        }
    }

    private static void testCharacters() {
        for (int c = 0; c < 256; c++) {
            LineAssembler x = new LineAssembler();
            boolean due = c == 9 || c == 10 || c >= 32 && c <= 126;
            feed(x, c, 1, due);
            Check.same("clear after " + c, x.clear(), due ? 1 : 0);
        }
    }

    /** One wrong character, wherever it is, and nothing is put there. */
    private static void testWhole() {
        for (int i = 0; i < 8; i++) {
            LineAssembler x = new LineAssembler();
            long wrong = 0x2020202020202020L & ~(255L << 8 * i) | 127L << 8 * i;
            feed(x, wrong, 8, false);
            feed(x, wrong, i + 1, false);
            Check.same("clear after a wrong character", x.clear(), 0);
            if (i > 0) {
                feed(x, wrong, i, true);
                Check.same("clear without the wrong character", x.clear(), i);
            }
        }
        LineAssembler x = new LineAssembler();
        feed(x, 0xFF, 1, false);
        feed(x, -1L, 8, false);
        feed(x, 0L, 1, false);
    }

    /** More calls than are promised, but no fewer can fill the text. */
    private static void testLongest() {
        LineAssembler x = new LineAssembler();
        for (int i = 0; i < 8191; i++) {
            x.feed(0x2020202020202020L, 8);
        }
        feed(x, 0x20202020202020L, 7, true);
        feed(x, 0x2020L, 2, false);
        feed(x, 0x20L, 1, true);
        feed(x, 0x20L, 1, false);
        Check.same("clear of the longest text", x.clear(), 65536);
        feed(x, 0x20L, 1, true);
    }
}
