/** Promise 10: the label with the greatest address not above a, the latest of several. */
final class BeforeTest {
    private static void before(LineAssembler x, int a, int due) {
        Check.same("before(" + a + ")", x.before(a), due);
    }

    public static void main(String[] args) {
        LineAssembler x = Check.assembled("c.nop\na: b: 1: nop\n.data\nc: .byte 1\nd:\n.text\ne: 2: ret\n");
        int[][] due = {{-1, -1}, {0, -1}, {1, -1}, {2, 1}, {3, 1}, {5, 1}, {6, 4}, {7, 4}, {1023, 4},
            {1024, 2}, {1025, 3}, {1026, 3}, {Integer.MAX_VALUE, 3}, {Integer.MIN_VALUE, -1}};
        for (int[] pair : due) {
            before(x, pair[0], pair[1]);
        }
        // The latest in the text, also when it stands in another section.
        LineAssembler y = Check.assembled(".data\na:\n.text\nb: .data\nc:\n.text\nd:\n.space 1024");
        before(y, 0, 3);
        before(y, 1023, 3);
        before(y, 1024, 2);
        before(y, -1, -1);
        LineAssembler z = Check.assembled(".data\na:\n.text\nb:\n.data\nc:");
        before(z, 0, 2);
        before(Check.assembled("1: nop"), 4, -1);
        before(Check.assembled("a:"), 0, 0);
        before(Check.assembled("nop\na: nop\n.data\nb:"), 1000, 0);
        before(Check.assembled(""), 0, -1);
        Check.feedAll(z, "\nfoo");
        before(z, 0, 2);
        z.assemble();
        before(z, 0, -1);
        before(z, Integer.MAX_VALUE, -1);
        Check.end();
    }
}
