/** Promise 9: the line of the statement that a byte is of. */
final class LineTest {
    private static void lines(String text, int... due) {
        LineAssembler x = Check.assembled(text);
        for (int k = 0; k < due.length; k++) {
            Check.same("line(" + k + ") of " + text, x.line(k), due[k]);
        }
        Check.same("line behind the end of " + text, x.line(due.length), 0);
        Check.same("line(-1)", x.line(-1), 0);
        Check.same("line of the lowest", x.line(Integer.MIN_VALUE), 0);
        Check.same("line of the highest", x.line(Integer.MAX_VALUE), 0);
    }

    public static void main(String[] args) {
        lines("");
        lines("nop\n\n# no\nc.nop", 1, 1, 1, 1, 4, 4);
        lines("l:\n .byte 1, 2\n.half 3\n.ascii \"ab\", \"c\"\n.asciz \"\"", 2, 2, 3, 3, 4, 4, 4, 5);
        lines(".byte 1\n.align 2\n.space 2\n.align 2", 1, 2, 2, 2, 3, 3, 4, 4);
        lines("la a0, 0\nli a0, 5000", 1, 1, 1, 1, 1, 1, 1, 1, 2, 2, 2, 2, 2, 2, 2, 2);
        lines("\nblt a0, a1, . + 5000\nret", 2, 2, 2, 2, 2, 2, 2, 2, 3, 3, 3, 3);

        LineAssembler x = Check.assembled(".data\n.byte 1\n.text\nnop\n.data\n.byte 2\n.text\n.byte 1");
        int[] due = {4, 4, 4, 4, 8, 0, 0};
        for (int k = 0; k < due.length; k++) {
            Check.same("line(" + k + ")", x.line(k), due[k]);
        }
        Check.same("line(1023)", x.line(1023), 0);
        Check.same("line(1024)", x.line(1024), 2);
        Check.same("line(1025)", x.line(1025), 6);
        Check.same("line(1026)", x.line(1026), 0);

        Check.feedAll(x, "\nfoo");
        Check.same("line(0) when the text has changed", x.line(0), 4);
        x.assemble();
        Check.same("line(0) when nothing is assembled", x.line(0), 0);
        x.clear();
        Check.feedAll(x, ".data\n.byte 1");
        x.assemble();
        Check.same("line(0) of another text", x.line(0), 2);
        Check.same("line(1024) of another text", x.line(1024), 0);
        Check.end();
    }
}
