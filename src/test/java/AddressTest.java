/** Promise 7: the addresses of the labels with names, in the order of the text. */
final class AddressTest {
    private static void none(LineAssembler x, int k) {
        Check.fails("address(" + k + ")", IndexOutOfBoundsException.class, () -> x.address(k));
    }

    public static void main(String[] args) {
        LineAssembler x = Check.assembled("z: 1: nop\n.data\ny: .byte 1\nx: 2: .text\n"
                + "w: v: c.nop\n.equ k, 3\n.data\nu: .align 3\nt:\n.text\ns:");
        int[] due = {0, 1024, 1025, 4, 4, 1025, 1032, 6};
        for (int k = 0; k < due.length; k++) {
            Check.same("address(" + k + ")", x.address(k), due[k]);
        }
        none(x, due.length);
        none(x, -1);
        none(x, Integer.MIN_VALUE);
        none(x, Integer.MAX_VALUE);
        none(Check.assembled("1: nop\n.equ k, 1"), 0);
        none(Check.assembled(""), 0);
        // Behind what has got longer.
        LineAssembler y = Check.assembled("a: j c\nb: .space 3000\nc:");
        Check.same("address of b", y.address(1), 4);
        Check.same("address of c", y.address(2), 3004);
        Check.feedAll(y, "\nc:");
        Check.same("address of c in the text's change", y.address(2), 3004);
        y.assemble();
        none(y, 0);
        // No data: a label there is where it would begin.
        Check.same("a label of no data", Check.assembled("nop\n.data\nl:").address(0), 1024);
        Check.end();
    }
}
