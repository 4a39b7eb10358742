/** Promise 1: no text, nothing assembled. */
final class NewObjectTest {
    public static void main(String[] args) {
        LineAssembler x = new LineAssembler();
        Check.same("clear of a new object", x.clear(), 0);
        for (int what = -1; what <= 6; what++) {
            int w = what;
            Check.fails("size(" + w + ")", IllegalStateException.class, () -> x.size(w));
        }
        Check.fails("byteAt(0)", IndexOutOfBoundsException.class, () -> x.byteAt(0));
        Check.fails("address(0)", IndexOutOfBoundsException.class, () -> x.address(0));
        Check.fails("letter(0, 0)", IndexOutOfBoundsException.class, () -> x.letter(0, 0));
        Check.same("line(0)", x.line(0), 0);
        Check.same("before(0)", x.before(0), -1);

        Check.same("assemble of no text", x.assemble(), 0);
        for (int what = 0; what <= 5; what++) {
            Check.same("size(" + what + ") of no text", x.size(what), 0);
        }

        // Two objects share nothing.
        LineAssembler y = new LineAssembler();
        Check.feedAll(x, "l: nop");
        x.assemble();
        Check.same("clear beside another object", y.clear(), 0);
        Check.fails("size beside another object", IllegalStateException.class, () -> y.size(0));
        Check.end();
    }
}
