/** The boundary cases of sections and directives. */
final class EdgeSectionTest {
    public static void main(String[] args) {
        testDataBegin();
        testLabels();
        testEnd();
        testEquate();
        testNumbers();
        testTexts();
        testSpace();
        testAlign();
        testZeros();
        Check.end();
    }

    private static void testDataBegin() {
        Check.says("The data begins at the first multiple of 1024 that is not below the text's size");
        int[][] due = {{0, 0}, {1, 1024}, {2, 1024}, {1023, 1024}, {1024, 1024}, {1025, 2048},
            {2047, 2048}, {2048, 2048}, {2049, 3072}, {31743, 31744}, {31744, 31744}, {31745, 32768},
            {32767, 32768}, {32768, 32768}};
        for (int[] row : due) {
            LineAssembler x = Check.assembled(".data\nl:\n.text\n.space " + row[0]);
            Check.same("text's size", x.size(0), row[0]);
            Check.same("data of a text of " + row[0], x.size(1), row[1]);
            Check.same("a label there", x.address(0), row[1]);
            Check.same("all", x.size(2), row[0]);
        }
        // It is the size when all is as long as it must be.
        Check.same("before", Check.assembled("j l\n.space 1022\nl:").size(1), 1024);
        Check.same("after", Check.assembled("j l+2000\n.space 1022\nl:").size(1), 2048);
        Check.says("what follows .text (as at first), or .data, is put behind what this has already");
        Check.bytes(".byte 1", "01");
        Check.bytes(".text\n.text\n.byte 1\n.text\n.byte 2", "0102");
        Check.bytes(".data\n.data\n.byte 1\n.data\n.byte 2", "0102");
        Check.bytes(".data\n.byte 1\n.text\n.data\n.byte 2", "0102");
        Check.bytes(".data\n.byte 3\n.text\n.byte 1\n.data\n.byte 4\n.text\n.byte 2",
                "0102" + "00".repeat(1022) + "0304");
    }

    private static void testLabels() {
        Check.says("A label is the address of what comes next in its section (of an .align: before it)");
        addresses("l:", 0);
        addresses("nop\nl:", 4);
        addresses("nop\nl: .data\nm: .text\nn: nop", 4, 1024, 4);
        addresses(".data\nl: .byte 1\nm: .text\nn:\n.data\no:", 0, 1, 0, 1);
        addresses(".byte 1\nl: .align 2\nm: .align 2\nn:", 1, 4, 4);
        addresses("l: .align 10\nm: .byte 1\nn: .align 10\no:", 0, 0, 1, 1024);
        addresses("l: .space 0\nm: .ascii \"\"\nn: .equ k, 1\no:", 0, 0, 0, 0);
        addresses("nop\n.data\nl:\n.align 3\nm:", 1024, 1024);
    }

    private static void addresses(String text, int... due) {
        LineAssembler x = Check.assembled(text);
        Check.same("labels of " + text, x.size(3), due.length);
        for (int k = 0; k < due.length; k++) {
            Check.same("address(" + k + ") of " + text, x.address(k), due[k]);
        }
    }

    private static void testEnd() {
        Check.says("ALL ends where the data does, or, if that has no bytes, where the text does");
        ends("", 0);
        ends(".data", 0);
        ends(".data\nl: .space 0", 0);
        ends(".byte 1\n.data\nl: .align 10", 1);
        ends(".byte 1\n.data\n.asciz \"\"", 1025);
        ends(".data\n.byte 1", 1);
        ends(".space 1024\n.data\n.byte 1", 1025);
        Check.says("7 all ends above 32768");
        ends(".space 32768", 32768);
        ends(".space 32768\n.data\nl: .ascii \"\"\n.align 10", 32768);
        ends(".data\n.space 32768", 32768);
        ends(".byte 1\n.data\n.space 31744", 32768);
        ends(".space 31744\n.data\n.space 1024", 32768);
        ends(".space 31745\n.align 10", 32768);
        Check.fault(".space 32768\n.byte 1", 7, 0);
        Check.fault(".data\n.space 32768\n.byte 1", 7, 0);
        Check.fault(".byte 1\n.data\n.space 31745", 7, 0);
        Check.fault(".space 31745\n.data\n.byte 1", 7, 0);
        Check.fault(".space 32768\n.data\n.byte 1", 7, 0);
        Check.fault(".space 32768\n.byte 1\n.align 10", 7, 0);
        Check.fault(".space 32768\n".repeat(250), 7, 0);
        // Jumps that get longer count: here the last two bytes are too many.
        ends(".space 32766\nj .-2048", 32768);
        Check.fault(".space 32766\nj .-2050", 7, 0);
        ends(".space 32764\nbeq a0, a1, .-4096", 32768);
        Check.fault(".space 32764\nbeq a0, a1, .-4098", 7, 0);
    }

    private static void ends(String text, int due) {
        LineAssembler x = Check.assembled(text);
        Check.same("size(2) of " + text, x.size(2), due);
        Check.fails("byteAt(" + due + ")", IndexOutOfBoundsException.class, () -> x.byteAt(due));
        if (due > 0) {
            Check.same("the last line", x.line(due - 1) > 0 ? 1 : 0, 1);
            Check.same("the last byte", x.byteAt(due - 1) >= 0 ? 1 : 0, 1);
        }
    }

    private static void testEquate() {
        Check.says(".equ name, e (fixed: a constant)");
        String[] ends = {"0", "-1", "2147483647", "2147483648", "4294967295", "-2147483648"};
        int[] due = {0, -1, Integer.MAX_VALUE, Integer.MIN_VALUE, -1, Integer.MIN_VALUE};
        for (int i = 0; i < ends.length; i++) {
            Check.word(".equ k, " + ends[i] + "\n.word k", due[i]);
        }
        Check.fault(".equ", 1, 1);
        Check.fault(".equ k", 1, 1);
        Check.fault(".equ k,", 1, 1);
        Check.fault(".equ k, 1,", 1, 1);
        Check.fault(".equ k, 1 2", 1, 1);
        Check.fault(".equ , 1", 1, 1);
        Check.fault(".equ 1, 1", 1, 1);
        Check.fault(".equ k: 1", 1, 1);
    }

    private static void testNumbers() {
        Check.says(".byte .half .word with one or more e: the lowest bits, the lowest byte first");
        Check.bytes(".byte 0, 127, 128, 255, 256, -1, -128, -129, -256", "007f80ff00ff807f00");
        Check.bytes(".byte 0x7FFFFFFF, 0x80000000, 0xFFFFFFFF, 0x12345678", "ff00ff78");
        Check.bytes(".half 0, 32767, 32768, 65535, 65536, -1, -32768, -32769",
                "0000" + "ff7f" + "0080" + "ffff" + "0000" + "ffff" + "0080" + "ff7f");
        Check.bytes(".word 0x12345678, 0x7FFFFFFF, 0x80000000, -1",
                "78563412" + "ffffff7f" + "00000080" + "ffffffff");
        for (String name : new String[] {".byte", ".half", ".word"}) {
            Check.fault(name, 1, 1);
            Check.fault(name + " ,", 1, 1);
            Check.fault(name + " 1,", 1, 1);
            Check.fault(name + " ,1", 1, 1);
            Check.fault(name + " 1,,1", 1, 1);
            Check.fault(name + " 1 1", 1, 1);
            Check.fault(name + " \"a\"", 1, 1);
            Check.good(name + " 1");
        }
        Check.same("many", Check.assembled(".word 1" + ",1".repeat(1500)).size(2), 6004);
    }

    private static void testTexts() {
        Check.says(".ascii .asciz with one or more texts, a 0 behind each of .asciz");
        Check.bytes(".ascii \"\", \"\"", "");
        Check.bytes(".asciz \"\", \"\"", "0000");
        Check.bytes(".asciz \"a\", \"\", \"bc\"", "6100" + "00" + "626300");
        Check.bytes(".ascii \"a\", \"\", \"bc\"", "616263");
        Check.bytes(".asciz \"a\"\n.ascii \"b\"\n.asciz \"c\"", "6100" + "62" + "6300");
        for (String name : new String[] {".ascii", ".asciz"}) {
            for (String wrong : new String[] {"", " ,", " \"a\",", " ,\"a\"", " \"a\",,\"b\"",
                " \"a\" \"b\"", " 1", " 'a'", " a", " \"a\", 1", " \"a\" + 1"}) {
                Check.fault(name + wrong, 1, 1);
            }
        }
    }

    private static void testSpace() {
        Check.says(".space e: fixed, 0 .. 32768: so many 0");
        Check.bytes(".space 0", "");
        Check.bytes(".space 1", "00");
        Check.same("most", Check.assembled(".space 32768").size(0), 32768);
        Check.same("nearly", Check.assembled(".space 32767").size(0), 32767);
        for (String e : new String[] {"-1", "32769", "-32768", "65536", "0x7FFFFFFF", "0x80000000",
            "0xFFFFFFFF", "0-1", "32768+1"}) {
            Check.fault("\n.space " + e, 6, 2);
        }
        Check.good(".space 65536*65536");
        Check.fault(".space", 1, 1);
        Check.fault(".space 1,", 1, 1);
        Check.fault(".space 1, 1", 1, 1);
    }

    private static void testAlign() {
        Check.says(".align e: fixed, 0 .. 10: 0 up to a multiple of 2 to the e");
        for (int e = 0; e <= 10; e++) {
            int step = 1 << e;
            for (int had : new int[] {0, 1, step - 1, step, step + 1, 2 * step - 1, 2 * step}) {
                int due = (had + step - 1) / step * step;
                LineAssembler x = Check.assembled(".space " + had + "\n.align " + e);
                Check.same("text of " + had + " aligned by " + e, x.size(0), due);
                LineAssembler y = Check.assembled("nop\n.data\n.space " + had + "\n.align " + e);
                Check.same("data of " + had + " aligned by " + e, y.size(2),
                        due == 0 ? 4 : 1024 + due);
            }
        }
        for (String e : new String[] {"-1", "11", "32", "0x7FFFFFFF", "0x80000000", "0xFFFFFFFF", "10+1"}) {
            Check.fault("\n.align " + e, 6, 2);
        }
        Check.fault(".align", 1, 1);
        Check.fault(".align 1,", 1, 1);
        Check.fault(".align 1, 1", 1, 1);
        // Its zeros are found again when what stands before it gets longer.
        LineAssembler x = Check.assembled("j l\n.align 2\n.space 3000\nl:");
        Check.same("no zeros are left", x.address(0), 3004);
        LineAssembler y = Check.assembled("j l\nc.nop\n.align 2\n.space 3000\nl:");
        Check.same("zeros have come", y.address(0), 3008);
    }

    private static void testZeros() {
        Check.says("so many 0");
        // Whatever stands before them, or before the gap, ends with its own last byte.
        String[] before = {"add t6,t6,t6", "li a0,-1", "li a0,-33", "li a0,0x12345678", "la t6,.-1",
            "j .+2", "j .+4000", "call .-3000", "beqz s0,.+2", "beqz s0,.+2000", "bgeu t6,t6,.+5000",
            "jal t6,.+2", "c.j .-2", "c.bnez s0,.-2", "sw t6,-1(t6)", "c.addi t6,-1", ".byte -1",
            ".half -1", ".word -1", ".ascii \"zz\"", ".asciz \"zz\""};
        for (String text : before) {
            int length = Check.assembled(text).size(0);
            LineAssembler x = Check.assembled(".ascii \"y\"\n.align 2\n" + text
                    + "\n.space 9\n.align 3\n" + text + "\n.data\n.ascii \"xx\"\n");
            for (int k = 1; k < 4; k++) {
                Check.same("zero " + k + " before " + text, x.byteAt(k), 0);
            }
            int after = 4 + length + 9 + 7 & -8;
            for (int k = 4 + length; k < after; k++) {
                Check.same("zero " + k + " behind " + text, x.byteAt(k), 0);
            }
            for (int k = after + length; k < 1024; k++) {
                Check.same("zero " + k + " up to the data behind " + text, x.byteAt(k), 0);
            }
        }
        // The text may end right where the data begins, whichever of them stands first.
        for (String text : before) {
            int length = Check.assembled(text).size(0);
            String code = ".text\n.space " + (1024 - length) + "\n" + text + "\n";
            String bytes = ".data\n.ascii \"xy\"\n";
            for (String both : new String[] {code + bytes, bytes + code}) {
                LineAssembler x = Check.assembled(both);
                Check.same("data behind " + text, x.size(1), 1024);
                Check.same("its first byte", x.byteAt(1024), 'x');
                Check.same("its second byte", x.byteAt(1025), 'y');
                Check.same("before " + text, x.byteAt(1023 - length), 0);
            }
        }
        // A text behind another one is not seen in the zeros between them.
        Check.bytes(".ascii \"ab\"\n.space 2\n.ascii \"cd\"", "6162" + "0000" + "6364");
        Check.bytes(".data\n.ascii \"cd\"\n.text\n.ascii \"ab\"", "6162" + "00".repeat(1022) + "6364");
    }
}
