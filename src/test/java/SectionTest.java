/** Promise 4: sections and directives. */
final class SectionTest {
    public static void main(String[] args) {
        testSections();
        testNumbers();
        testSpace();
        testAlign();
        testEquate();
        testEnd();
        Check.end();
    }

    private static void testSections() {
        LineAssembler x = Check.assembled(".data\nd: .byte 1\n.text\nt: .byte 2\n.data\ne: .byte 3\n"
                + "f: .text\ng: .byte 4\n.text\nh:");
        Check.same("text, gap, data", Check.bytes(x), "0204" + "00".repeat(1022) + "0103");
        int[] due = {1024, 0, 1025, 1026, 1, 2};
        for (int k = 0; k < due.length; k++) {
            Check.same("address " + k, x.address(k), due[k]);
        }
        Check.fault(".text 1", 1, 1);
        Check.fault(".data a", 1, 1);
        Check.fault(".bss", 2, 1);
        Check.fault("text", 2, 1);
    }

    private static void testNumbers() {
        Check.bytes(".byte 1, -1,255,256, 0x1234", "01ffff0034");
        Check.bytes(".half 1, -2,0x12345678", "0100feff7856");
        Check.bytes(".word 1, -2, 0x12345678", "01000000feffffff78563412");
        Check.bytes(".byte 1\n.half 2\n.word 3", "01020003000000");
        Check.bytes("nop\n.word ., .\n.word .", "13000000" + "04000000" + "04000000" + "0c000000");
        Check.fault(".byte", 1, 1);
        Check.fault(".half 1,", 1, 1);
        Check.fault(".word ,1", 1, 1);
        Check.fault(".word 1 1", 1, 1);
        Check.fault(".byte 1/0", 9, 1);
        Check.fault(".byte 1, x", 8, 1);
        Check.fault(".byte 1/0, x", 9, 1);
        Check.fault(".byte 1/0+x", 8, 1);
    }

    private static void testSpace() {
        Check.bytes(".space 0", "");
        Check.bytes(".byte 1\n.space 3\n.byte 2", "0100000002");
        Check.same("the most", Check.assembled(".space 32768").size(2), 32768);
        Check.fault(".space 32769", 6, 1);
        Check.fault(".space -1", 6, 1);
        Check.fault(".space 0x80000000", 6, 1);
        Check.fault(".space", 1, 1);
        Check.fault(".space 1, 2", 1, 1);
    }

    private static void testAlign() {
        Check.bytes(".byte 1\n.align 0\n.byte 2\n.align 1\n.align 2\n.byte 3\n.align 3",
                "0102" + "0000" + "03000000");
        LineAssembler x = Check.assembled("nop\na: .align 10\nb: .data\n.byte 1\nc: .align 4\nd:");
        int[] due = {4, 1024, 1025, 1040};
        for (int k = 0; k < due.length; k++) {
            Check.same("address " + k, x.address(k), due[k]);
        }
        Check.same("all of it", x.size(2), 1040);
        Check.bytes(".align 10", "");
        Check.fault(".align 11", 6, 1);
        Check.fault(".align -1", 6, 1);
        Check.fault(".align", 1, 1);
        Check.fault(".align 1, 2", 1, 1);
    }

    private static void testEquate() {
        Check.bytes(".equ a, -5\n.equ b, a*a+'a'\n.byte a, b", "fb7a");
        Check.bytes(" .equ\tc ,\t0xFFFFFFFF # 1\n.word c", "ffffffff");
        Check.bytes(".equ .equ, 3\n.byte .equ", "03");
        Check.fault(".equ", 1, 1);
        Check.fault(".equ a", 1, 1);
        Check.fault(".equ a,", 1, 1);
        Check.fault(".equ a 1", 1, 1);
        Check.fault(".equ 1, 1", 1, 1);
        Check.fault(".equ 1f, 1", 1, 1);
        Check.fault(".equ a, 1, 2", 1, 1);
        Check.fault(".equ a0, 1", 4, 1);
        Check.fault(".equ fp", 4, 1);
        Check.fault("a: .equ a, 1", 4, 1);
        Check.fault(".equ a, 1\n.equ a, 1", 4, 2);
        Check.fault(".equ a, 1\na:", 4, 2);
        Check.fault(".equ a, 1\n.equ a, b", 4, 2);
    }

    /** All may end at 32768 and not above; the data counts if it has bytes. */
    private static void testEnd() {
        Check.same("text to the end", Check.assembled(".space 32767\n.byte 1").size(2), 32768);
        Check.fault(".space 32767\n.half 1", 7, 0);
        Check.fault(".space 32768\n.data\n.byte 1", 7, 0);
        Check.same("no data", Check.assembled(".space 32768\n.data\nl:").address(0), 32768);
        Check.same("data to the end",
                Check.assembled(".space 1025\n.data\n.space 30720").size(2), 32768);
        Check.fault(".space 1025\n.data\n.space 30721", 7, 0);
        Check.same("data alone", Check.assembled(".data\n.space 32768").size(2), 32768);
        Check.fault(".data\n.space 32768\n.align 10\n.byte 0", 7, 0);
        Check.fault(".space 32768\n".repeat(300), 7, 0);
        // What is read with a fault, and what has one of the later faults.
        Check.fault(".space 32768\nnop\nfoo", 2, 3);
        Check.fault(".space 32768\n.byte 1/0, x", 7, 0);
    }
}
