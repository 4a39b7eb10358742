/** Promise 6: byte k of all, 0 between text and data. */
final class ByteAtTest {
    private static void none(LineAssembler x, int k) {
        Check.fails("byteAt(" + k + ")", IndexOutOfBoundsException.class, () -> x.byteAt(k));
    }

    public static void main(String[] args) {
        LineAssembler x = Check.assembled(".byte 255, 128, 1\n.data\n.byte 254");
        Check.same("byteAt(0)", x.byteAt(0), 255);
        Check.same("byteAt(1)", x.byteAt(1), 128);
        Check.same("byteAt(2)", x.byteAt(2), 1);
        for (int k = 3; k < 1024; k++) {
            Check.same("byteAt(" + k + ")", x.byteAt(k), 0);
        }
        Check.same("byteAt(1024)", x.byteAt(1024), 254);
        for (int k : new int[] {-1, 1025, 1026, Integer.MIN_VALUE, Integer.MAX_VALUE}) {
            none(x, k);
        }
        none(Check.assembled(""), 0);
        none(Check.assembled("l:\n.data\nm:"), 0);
        none(Check.assembled("nop\n.data\nl:"), 4);
        LineAssembler last = Check.assembled(".space 32767\n.byte 7");
        Check.same("the last of all", last.byteAt(32767), 7);
        none(last, 32768);
        // A shorter text leaves nothing of a longer one.
        last.clear();
        Check.feedAll(last, ".byte 1\n.data\n.byte 2");
        last.assemble();
        Check.same("its bytes", Check.bytes(last), "01" + "00".repeat(1023) + "02");
        last.clear();
        Check.feedAll(last, ".space 2000\n.byte 9");
        last.assemble();
        Check.same("where the data was", last.byteAt(1024), 0);
        Check.feedAll(last, "\nfoo");
        last.assemble();
        none(last, 0);
        Check.end();
    }
}
