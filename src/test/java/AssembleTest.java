/** Promise 4: 0, or the fault + 16 * its line; what was assembled stays up to the next time. */
final class AssembleTest {
    public static void main(String[] args) {
        testFaultDropsAll();
        testTextChanges();
        testAgain();
        testLineNumbers();
        testNamesAreForgotten();
        testManyNames();
        testLikeNames();
        Check.end();
    }

    private static void testFaultDropsAll() {
        LineAssembler x = Check.assembled("l: nop");
        Check.feedAll(x, "\nfoo");
        Check.same("size(0) before the fault", x.size(0), 4);
        Check.same("assemble with a fault", x.assemble(), 2 + 16 * 2);
        expectNothing(x);
        // Faults of the second reading, and of the layout, drop all too.
        x.clear();
        Check.feedAll(x, "l: nop");
        Check.same("assemble", x.assemble(), 0);
        Check.feedAll(x, "\nla a0, m");
        Check.same("assemble with a missing name", x.assemble(), 8 + 16 * 2);
        expectNothing(x);
        x.clear();
        Check.feedAll(x, "l: .space 32768\nnop");
        Check.same("assemble of too much", x.assemble(), 7);
        expectNothing(x);
    }

    private static void expectNothing(LineAssembler x) {
        Check.fails("size(0)", IllegalStateException.class, () -> x.size(0));
        Check.fails("size(9)", IllegalStateException.class, () -> x.size(9));
        Check.fails("byteAt(0)", IndexOutOfBoundsException.class, () -> x.byteAt(0));
        Check.fails("address(0)", IndexOutOfBoundsException.class, () -> x.address(0));
        Check.fails("letter(0, 0)", IndexOutOfBoundsException.class, () -> x.letter(0, 0));
        Check.same("line(0)", x.line(0), 0);
        Check.same("before(0)", x.before(0), -1);
    }

    private static void testTextChanges() {
        LineAssembler x = Check.assembled("one: .byte 1");
        Check.feedAll(x, "\ntwo: .byte 2");
        Check.same("bytes before the next time", Check.bytes(x), "01");
        Check.same("labels before the next time", x.size(3), 1);
        Check.same("assemble", x.assemble(), 0);
        Check.same("bytes after it", Check.bytes(x), "0102");
        Check.same("labels after it", x.size(3), 2);
    }

    private static void testAgain() {
        LineAssembler x = Check.assembled("1: j 1b\n.data\n.equ k, 3\n.byte k\nm: .asciz \"hi\"");
        String first = Check.bytes(x);
        for (int i = 0; i < 3; i++) {
            Check.same("assemble again", x.assemble(), 0);
            Check.same("bytes again", Check.bytes(x), first);
            Check.same("size(4) again", x.size(4), 1);
        }
    }

    private static void testLineNumbers() {
        Check.fault("", 0, 0);
        Check.fault("\n\n\n", 0, 0);
        Check.fault("bad", 2, 1);
        Check.fault("\nbad", 2, 2);
        Check.fault(" # bad\n\t\n\n\nbad\nworse:worse:", 2, 5);
        Check.fault("\n".repeat(2000) + ";", 1, 2001);
    }

    private static void testNamesAreForgotten() {
        LineAssembler x = Check.assembled("k: add: .equ c, 1\n1: .byte c");
        x.clear();
        Check.feedAll(x, ".equ k, 2\n.equ add, 3\nc: .byte k, add");
        Check.same("assemble of the names again", x.assemble(), 0);
        Check.same("bytes", Check.bytes(x), "0203");
        x.clear();
        Check.feedAll(x, ".byte k");
        Check.same("a name of an older text", x.assemble(), 8 + 16);
        x.clear();
        Check.feedAll(x, ".byte add");
        Check.same("a statement's name of an older text", x.assemble(), 8 + 16);
        x.clear();
        Check.feedAll(x, ".half 1b");
        Check.same("a near label of an older text", x.assemble(), 8 + 16);
        x.clear();
        Check.feedAll(x, ".equ m, 4\nli a0, k");
        Check.same("a constant of an older text", x.assemble(), 5 + 32);
    }

    /** So many that they meet in every way, and others in their place afterwards. */
    private static void testManyNames() {
        LineAssembler x = new LineAssembler();
        for (int time = 0; time < 3; time++) {
            StringBuilder text = new StringBuilder();
            for (int i = 0; i < 250; i++) {
                text.append(nameOf(i + 100 * time)).append(":.byte ");
                text.append(nameOf(249 - i + 100 * time)).append('\n');
            }
            x.clear();
            Check.feedAll(x, text.toString());
            Check.same("assemble of many names", x.assemble(), 0);
            for (int i = 0; i < 250; i++) {
                Check.same("name " + i, Check.name(x, i), nameOf(i + 100 * time));
                Check.same("address " + i, x.address(i), i);
                Check.same("byte " + i, x.byteAt(i), 249 - i);
            }
            Check.feedAll(x, ".byte " + nameOf(100 * time + 250));
            Check.same("assemble with one more", x.assemble(), 8 + 16 * 251);
        }
    }

    private static String nameOf(int i) {
        return Integer.toString(i * 7919 % 46656 + 46656, 36).replaceFirst("^[0-9]", "_");
    }

    /** Names that differ in one place alone. */
    private static void testLikeNames() {
        String letters = "abcdefghijklmnopqrstuvwxyzABCDEFGHIJKLMNOPQRSTUVWXYZ_.$";
        for (int front = 0; front < 6; front++) {
            StringBuilder text = new StringBuilder();
            for (int i = 0; i < letters.length(); i++) {
                text.append("______", 0, front).append(letters.charAt(i));
                text.append("______", front, 6).append(":.byte 1\n");
            }
            LineAssembler x = Check.assembled(text.toString());
            for (int i = 0; i < letters.length(); i++) {
                Check.same("letter of name " + i, x.letter(i, front), letters.charAt(i));
                Check.same("address " + i, x.address(i), i);
            }
        }
    }
}
