/** The boundary cases of the calls, promise by promise. */
final class EdgeCallTest {
    private static final int MIN = Integer.MIN_VALUE;
    private static final int MAX = Integer.MAX_VALUE;
    private static final int[] NUMBERS = {MIN, MIN + 1, -65536, -2, -1, 0, 1, 2, 5, 6, 7, 32767, 32768,
        65536, MAX - 1, MAX};

    public static void main(String[] args) {
        testNew();
        testFeed();
        testRefused();
        testClear();
        testAssemble();
        testSize();
        testByteAt();
        testAddress();
        testLetter();
        testLine();
        testBefore();
        Check.end();
    }

    /** Every call of an object that has nothing assembled. */
    private static void expectNothing(LineAssembler x) {
        for (int k : NUMBERS) {
            Check.fails("size(" + k + ")", IllegalStateException.class, () -> x.size(k));
            Check.fails("byteAt(" + k + ")", IndexOutOfBoundsException.class, () -> x.byteAt(k));
            Check.fails("address(" + k + ")", IndexOutOfBoundsException.class, () -> x.address(k));
            Check.fails("letter(" + k + ", 0)", IndexOutOfBoundsException.class, () -> x.letter(k, 0));
            Check.fails("letter(0, " + k + ")", IndexOutOfBoundsException.class, () -> x.letter(0, k));
            Check.same("line(" + k + ")", x.line(k), 0);
            Check.same("before(" + k + ")", x.before(k), -1);
        }
    }

    private static void testNew() {
        Check.says("LineAssembler(): No text, nothing assembled");
        LineAssembler x = new LineAssembler();
        expectNothing(x);
        Check.same("clear", x.clear(), 0);
        expectNothing(x);
        Check.same("assemble", x.assemble(), 0);
        for (int what = 0; what <= 5; what++) {
            Check.same("size(" + what + ")", x.size(what), 0);
        }
        // A text alone is not assembled.
        expectNothing(Check.fed("l: nop"));
    }

    private static void feed(LineAssembler x, long chars, int n, boolean due) {
        Check.same("feed(" + chars + ", " + n + ")", x.feed(chars, n) ? 1 : 0, due ? 1 : 0);
    }

    private static void testFeed() {
        Check.says("The n lowest bytes of chars, the highest of them first, are put behind the text: true");
        String name = "abcdefgh";
        for (int n = 1; n <= 8; n++) {
            LineAssembler x = new LineAssembler();
            // What stands above them is not looked at, be it a character or not.
            feed(x, 0x6162636465666768L, n, true);
            feed(x, 0x803AL, 1, true);
            Check.same("assemble", x.assemble(), 0);
            Check.same("the label", Check.name(x, 0), name.substring(8 - n));
            Check.same("clear", x.clear(), n + 1);
        }
        LineAssembler x = new LineAssembler();
        feed(x, 0xFFFFFFFFFFFFFF61L, 1, true);
        feed(x, 0x80000000007E7E7EL, 3, true);
        feed(x, 0x0020202020202020L, 7, true);
        Check.same("clear", x.clear(), 11);
    }

    private static void testRefused() {
        Check.says("refused (false) when n is not 1 .. 8");
        for (int n : new int[] {0, -1, 9, 10, 16, 64, -8, -7, 257, MIN, MIN + 1, MIN + 8, MAX, MAX - 7}) {
            LineAssembler x = new LineAssembler();
            feed(x, 0x2020202020202020L, n, false);
            feed(x, 0x6161616161616161L, n, false);
            Check.same("clear", x.clear(), 0);
        }
        Check.says("one of them is no character of a text");
        for (int n = 1; n <= 8; n++) {
            for (int place = 0; place < 8; place++) {
                for (int c : new int[] {0, 8, 11, 31, 127, 128, 255}) {
                    LineAssembler x = Check.fed("l:");
                    long chars = 0x2020202020202020L & ~(255L << 8 * place) | (long) c << 8 * place;
                    feed(x, chars, n, place >= n);
                    Check.same("assemble", x.assemble(), 0);
                    Check.same("clear", x.clear(), place < n ? 2 : n + 2);
                }
            }
        }
        // What is refused changes nothing that is assembled, and nothing of the text.
        LineAssembler x = Check.assembled("l: nop");
        feed(x, 0x7F, 1, false);
        feed(x, 0x20, 0, false);
        Check.same("size(2)", x.size(2), 4);
        Check.same("assemble", x.assemble(), 0);
        Check.same("clear", x.clear(), 6);
    }

    private static void testClear() {
        Check.says("The text is empty. Answers how many characters it had");
        LineAssembler x = new LineAssembler();
        for (int many : new int[] {0, 1, 7, 8, 9, 63, 64, 65, 500}) {
            Check.feedAll(x, " ".repeat(many));
            Check.same("clear", x.clear(), many);
            Check.same("clear again", x.clear(), 0);
        }
        Check.feedAll(x, "foo");
        x.clear();
        Check.same("assemble of the empty text", x.assemble(), 0);
        Check.same("size(2)", x.size(2), 0);
        Check.fails("byteAt(0)", IndexOutOfBoundsException.class, () -> x.byteAt(0));
        Check.same("line(0)", x.line(0), 0);
        Check.same("before", x.before(MAX), -1);
    }

    private static void testAssemble() {
        Check.says("0, or the fault + 16 * its line");
        for (int line : new int[] {1, 2, 15, 16, 17, 255, 256, 257, 2000}) {
            String before = "\n".repeat(line - 1);
            Check.same("fault 1", Check.fed(before + ";").assemble(), 1 + 16 * line);
            Check.same("fault 8", Check.fed(before + "j l").assemble(), 8 + 16 * line);
            Check.same("fault 10", Check.fed(before + "c.addi16sp 0").assemble(), 10 + 16 * line);
        }
        Check.says("nothing is assembled then, also not what was before");
        for (String fault : new String[] {";", "foo", "jr 1", "l:", ".space .", ".space -1", ".space 32768",
            "j u", ".byte 1/0", "slli a0, a0, 32"}) {
            LineAssembler x = Check.assembled("l: nop\n");
            Check.feedAll(x, fault);
            Check.same("what was before", x.size(2), 4);
            Check.same("a fault", x.assemble() == 0 ? 0 : 1, 1);
            expectNothing(x);
            x.clear();
            expectNothing(x);
            Check.same("assemble of no text", x.assemble(), 0);
            Check.same("size(2)", x.size(2), 0);
        }
        Check.says("(What is assembled stays when the text changes, up to the next time.)");
        LineAssembler x = Check.assembled("l: .byte 1\nm: .byte 2");
        for (String more : new String[] {"", "\nfoo", "\nn: nop"}) {
            Check.feedAll(x, more);
            Check.same("bytes", Check.bytes(x), "0102");
            Check.same("labels", x.size(3), 2);
            Check.same("name", Check.name(x, 1), "m");
            Check.same("line", x.line(1), 2);
            Check.same("before", x.before(9), 1);
            x.clear();
        }
    }

    private static void testSize() {
        Check.says("IllegalStateException when nothing is; else IllegalArgumentException for another what");
        LineAssembler x = Check.assembled("l: nop\n.equ k, 1\n.data\nm: .byte 1\nj . + 4000");
        int[] due = {4, 1024, 1029, 2, 1, 1};
        for (int what : NUMBERS) {
            if (what >= 0 && what <= 5) {
                Check.same("size(" + what + ")", x.size(what), due[what]);
            } else {
                Check.fails("size(" + what + ")", IllegalArgumentException.class, () -> x.size(what));
            }
        }
        Check.fails("size(6) of nothing", IllegalStateException.class, () -> new LineAssembler().size(6));
        Check.says("3 how many labels with names, 4 how many constants");
        Check.same("none", Check.assembled("1: 2: nop").size(3), 0);
        Check.same("none", Check.assembled("l: nop").size(4), 0);
        StringBuilder many = new StringBuilder();
        for (int i = 0; i < 300; i++) {
            many.append("q").append(i).append(":\n.equ k").append(i).append(",1\n");
        }
        Check.same("300", Check.assembled(many.toString()).size(3), 300);
        Check.same("300", Check.assembled(many.toString()).size(4), 300);
    }

    private static void testByteAt() {
        Check.says("Byte k (0 .. 255) of all, 0 between text and data");
        LineAssembler x = Check.assembled(".byte 255, -128\n.data\n.byte 127, -1");
        Check.same("byteAt(0)", x.byteAt(0), 255);
        Check.same("byteAt(1)", x.byteAt(1), 128);
        Check.same("byteAt(2)", x.byteAt(2), 0);
        Check.same("byteAt(1023)", x.byteAt(1023), 0);
        Check.same("byteAt(1024)", x.byteAt(1024), 127);
        Check.same("byteAt(1025)", x.byteAt(1025), 255);
        Check.says("IndexOutOfBoundsException when there is none");
        for (int k : new int[] {-1, -1024, 1026, 1027, 32768, MIN, MAX}) {
            Check.fails("byteAt(" + k + ")", IndexOutOfBoundsException.class, () -> x.byteAt(k));
        }
        LineAssembler full = Check.assembled(".space 32767\n.byte 9");
        Check.same("byteAt(32767)", full.byteAt(32767), 9);
        Check.fails("byteAt(32768)", IndexOutOfBoundsException.class, () -> full.byteAt(32768));
        LineAssembler noData = Check.assembled("nop\n.data\nl:");
        Check.fails("byteAt(4)", IndexOutOfBoundsException.class, () -> noData.byteAt(4));
        Check.fails("byteAt(1024)", IndexOutOfBoundsException.class, () -> noData.byteAt(1024));
    }

    private static void testAddress() {
        Check.says("The address of label k, those with names counted in the order of the text");
        LineAssembler x = Check.assembled(".data\nb: 1: .byte 1\n.text\na: nop\n.equ k, 1\nc:");
        Check.same("address(0)", x.address(0), 1024);
        Check.same("address(1)", x.address(1), 0);
        Check.same("address(2)", x.address(2), 4);
        Check.says("IndexOutOfBoundsException when there is no such one");
        for (int k : new int[] {-1, 3, 4, MIN, MAX}) {
            Check.fails("address(" + k + ")", IndexOutOfBoundsException.class, () -> x.address(k));
        }
        LineAssembler none = Check.assembled("1: nop\n.equ k, 1");
        Check.fails("address(0)", IndexOutOfBoundsException.class, () -> none.address(0));
        Check.same("the highest", Check.assembled(".space 32768\nl:").address(0), 32768);
        Check.same("the highest", Check.assembled(".space 32768\n.data\nl:").address(0), 32768);
    }

    private static void testLetter() {
        Check.says("The i-th character of its name");
        String longest = "$_.0123456789abcdefghijklmnopqr";
        LineAssembler x = Check.assembled("z: 1: " + longest + ":\n.equ k, 1");
        Check.same("letter(0, 0)", x.letter(0, 0), 'z');
        for (int i = 0; i < 31; i++) {
            Check.same("letter(1, " + i + ")", x.letter(1, i), longest.charAt(i));
        }
        Check.says("IndexOutOfBoundsException when there is no such label, or none");
        int[][] none = {{0, 1}, {0, -1}, {1, 31}, {1, 32}, {1, -1}, {2, 0}, {-1, 0}, {0, MIN}, {0, MAX},
            {1, MIN}, {1, MAX}, {MIN, 0}, {MAX, 0}, {MIN, MIN}, {MAX, MAX}, {-1, -1}, {2, 1}, {-2, 0},
            {-100, 0}, {-300, 1}};
        for (int[] pair : none) {
            Check.fails("letter(" + pair[0] + ", " + pair[1] + ")", IndexOutOfBoundsException.class,
                    () -> x.letter(pair[0], pair[1]));
        }
    }

    private static void testLine() {
        Check.says("The line of the statement that byte k is of (of .align's, too)");
        LineAssembler x = Check.assembled("\nl: .byte 1\n.align 2\n\n.data\n.byte 1\n.align 1\n.asciz \"\"");
        int[] due = {2, 3, 3, 3};
        for (int k = 0; k < due.length; k++) {
            Check.same("line(" + k + ")", x.line(k), due[k]);
        }
        Check.same("line(1024)", x.line(1024), 6);
        Check.same("line(1025)", x.line(1025), 7);
        Check.same("line(1026)", x.line(1026), 8);
        Check.says("0 for none, or when nothing is assembled");
        for (int k : new int[] {-1, 4, 5, 1023, 1027, 2048, 32768, MIN, MAX}) {
            Check.same("line(" + k + ")", x.line(k), 0);
        }
        LineAssembler full = Check.assembled("\n.space 32768");
        Check.same("line(0)", full.line(0), 2);
        Check.same("line(32767)", full.line(32767), 2);
        Check.same("line(32768)", full.line(32768), 0);
    }

    private static void testBefore() {
        Check.says("The label with the greatest address not above a (of several the latest in the text)");
        LineAssembler x = Check.assembled(".half 1\na: b:\n1: .half 1\n.data\nc:\n.byte 1\n.text\nd: e:");
        int[][] due = {{2, 1}, {3, 1}, {4, 4}, {5, 4}, {1023, 4}, {1024, 2}, {1025, 2}, {MAX, 2}, {MAX - 1, 2}};
        for (int[] pair : due) {
            Check.same("before(" + pair[0] + ")", x.before(pair[0]), pair[1]);
        }
        Check.says("-1 for none, or when nothing is assembled");
        for (int a : new int[] {1, 0, -1, -2, MIN, MIN + 1}) {
            Check.same("before(" + a + ")", x.before(a), -1);
        }
        LineAssembler zero = Check.assembled("a: b: nop\nc:");
        Check.same("before(0)", zero.before(0), 1);
        Check.same("before(-1)", zero.before(-1), -1);
        Check.same("before(3)", zero.before(3), 1);
        Check.same("before(4)", zero.before(4), 2);
        Check.same("no label", Check.assembled("1: nop").before(MAX), -1);
        Check.same("a constant", Check.assembled(".equ k, 1").before(MAX), -1);
    }
}
