/** Promise 3: the text is empty; answers how many characters it had. */
final class ClearTest {
    public static void main(String[] args) {
        LineAssembler x = new LineAssembler();
        Check.same("clear of nothing", x.clear(), 0);
        Check.feedAll(x, "nop\nfoo bar");
        Check.same("clear", x.clear(), 11);
        Check.same("clear again", x.clear(), 0);
        Check.same("assemble after clear", x.assemble(), 0);
        Check.same("size after clear", x.size(2), 0);

        // What is assembled stays, and the next text begins at line 1 and address 0.
        Check.feedAll(x, "a: nop\nb: nop");
        x.assemble();
        Check.same("clear of two lines", x.clear(), 13);
        Check.same("size(2) stays", x.size(2), 8);
        Check.same("line(4) stays", x.line(4), 2);
        Check.same("name stays", Check.name(x, 1), "b");
        Check.feedAll(x, "c:b: ret");
        Check.same("text fed, not assembled: name", Check.name(x, 0), "a");
        Check.same("assemble", x.assemble(), 0);
        Check.same("bytes", Check.bytes(x), "67800000");
        Check.same("line(0)", x.line(0), 1);
        Check.same("name 0", Check.name(x, 0), "c");
        Check.same("name 1", Check.name(x, 1), "b");
        Check.same("size(3)", x.size(3), 2);
        Check.end();
    }
}
