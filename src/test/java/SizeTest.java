/** Promise 5: six sizes of what is assembled. */
final class SizeTest {
    private static void sizes(String text, int... due) {
        LineAssembler x = Check.assembled(text);
        for (int what = 0; what < due.length; what++) {
            Check.same("size(" + what + ") of " + text, x.size(what), due[what]);
        }
        for (int what : new int[] {-1, 6, 7, Integer.MIN_VALUE, Integer.MAX_VALUE}) {
            Check.fails("size(" + what + ")", IllegalArgumentException.class, () -> x.size(what));
        }
    }

    public static void main(String[] args) {
        sizes("", 0, 0, 0, 0, 0, 0);
        sizes("# nothing", 0, 0, 0, 0, 0, 0);
        sizes(".byte 1", 1, 1024, 1, 0, 0, 0);
        sizes(".space 1024", 1024, 1024, 1024, 0, 0, 0);
        sizes(".space 1025", 1025, 2048, 1025, 0, 0, 0);
        sizes(".data\n.byte 1", 0, 0, 1, 0, 0, 0);
        sizes("nop\n.data\n.byte 1, 2", 4, 1024, 1026, 0, 0, 0);
        sizes("nop\n.data\n.space 0\n.ascii \"\"\n.align 10\nl:", 4, 1024, 4, 1, 0, 0);
        sizes("a: b: 1: nop\n2: c:\n.data\nd:", 4, 1024, 4, 4, 0, 0);
        sizes(".equ a, 1\n.equ b, 2\n.equ ., 3\nl:", 0, 0, 0, 1, 3, 0);
        sizes("beqz a0, l\n.space 5000\nl:", 5008, 5120, 5008, 1, 0, 2);
        LineAssembler x = Check.fed("foo");
        x.assemble();
        for (int what = -1; what <= 6; what++) {
            int w = what;
            Check.fails("size(" + w + ")", IllegalStateException.class, () -> x.size(w));
        }
        // The rounds are those of the last time alone.
        LineAssembler y = Check.assembled("beqz a0, l\n.space 5000\nl:");
        y.assemble();
        Check.same("rounds again", y.size(5), 2);
        y.clear();
        y.assemble();
        Check.same("rounds of no text", y.size(5), 0);
        Check.end();
    }
}
