/** Promise 8: the characters of the labels' names. */
final class LetterTest {
    private static void none(LineAssembler x, int k, int i) {
        Check.fails("letter(" + k + ", " + i + ")", IndexOutOfBoundsException.class,
                () -> x.letter(k, i));
    }

    public static void main(String[] args) {
        LineAssembler x = Check.assembled("a: foo_Bar: 1: nop\n.equ k, 1\n.data\n$.9: abcdefghijklmnopqrstuvwxyz01234:");
        String[] due = {"a", "foo_Bar", "$.9", "abcdefghijklmnopqrstuvwxyz01234"};
        for (int k = 0; k < due.length; k++) {
            for (int i = 0; i < due[k].length(); i++) {
                Check.same("letter(" + k + ", " + i + ")", x.letter(k, i), due[k].charAt(i));
            }
            none(x, k, due[k].length());
            none(x, k, -1);
            none(x, k, Integer.MIN_VALUE);
            none(x, k, Integer.MAX_VALUE);
        }
        none(x, 4, 0);
        none(x, -1, 0);
        none(x, Integer.MIN_VALUE, 0);
        none(x, Integer.MAX_VALUE, 0);
        none(Check.assembled(".equ k, 1\n1: nop"), 0, 0);
        // A label used before it is defined, or called as a statement or register's part is.
        LineAssembler y = Check.assembled("j late\nadd: late: hi: nop");
        Check.same("name 0", Check.name(y, 0), "add");
        Check.same("name 1", Check.name(y, 1), "late");
        Check.same("name 2", Check.name(y, 2), "hi");
        y.clear();
        Check.feedAll(y, "other: names: here:");
        Check.same("name 1 before the next time", Check.name(y, 1), "late");
        y.assemble();
        Check.same("name 1 after it", Check.name(y, 1), "names");
        Check.end();
    }
}
