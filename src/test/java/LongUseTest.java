/** One object through all the calls that it is promised for, against a new one for each text. */
final class LongUseTest {
    private static final int MOST_CALLS = 512;
    private static final String[] TEXTS = {
        "a: nop\n b: j a",
        "a: foo",
        ".data\nx: .ascii \"hi\"\n.text\n ret",
        "",
        "1: beqz a0, 1f\n.space 300\n1:",
        ".equ k, 5\n.byte k, 1/0",
        "k: li t0, k",
        "j . + 5000\nq: .half q",
        ".space 32768\n.data\n.byte 1",
        "'",
        "nop: mv: la a0, mv\n.align 4",
        "c.nop\n.data\n.word a\na: b: c:",
    };

    private final LineAssembler old = new LineAssembler();
    private int calls = 0;

    public static void main(String[] args) {
        LongUseTest test = new LongUseTest();
        for (int i = 0; test.calls + 100 <= MOST_CALLS; i++) {
            test.compare(TEXTS[i * 5 % TEXTS.length]);
        }
        while (test.calls < MOST_CALLS) {
            test.calls++;
            Check.same("clear at call " + test.calls, test.old.clear(), 0);
        }
        Check.end();
    }

    private void compare(String text) {
        Check.says("An object is used for at most 512 calls after it has been made");
        Check.feedAll(old, text);
        calls += (text.length() + 7) / 8;
        LineAssembler fresh = Check.fed(text);
        int answer = fresh.assemble();
        calls++;
        int got = old.assemble();
        Check.same("assemble at call " + calls + " of " + text, got, answer);
        calls++;
        Check.same("clear at call " + calls, old.clear(), text.length());
        for (int k = 0; k < 3; k++) {
            calls += 2;
            Check.same("line(" + k + ") of " + text, old.line(k), fresh.line(k));
            Check.same("before(" + k + ") of " + text, old.before(k), fresh.before(k));
        }
        if (answer == 0 && got == 0) {
            compareSizes(text, fresh);
        } else {
            calls++;
            Check.fails("size(0) of " + text, IllegalStateException.class, () -> old.size(0));
        }
    }

    private void compareSizes(String text, LineAssembler fresh) {
        for (int what = 0; what <= 5; what++) {
            calls++;
            Check.same("size(" + what + ") of " + text, old.size(what), fresh.size(what));
        }
        for (int k = 0; k < Math.min(8, fresh.size(2)); k++) {
            calls++;
            Check.same("byteAt(" + k + ") of " + text, old.byteAt(k), fresh.byteAt(k));
        }
        for (int k = 0; k < fresh.size(3); k++) {
            calls += 2;
            Check.same("address(" + k + ") of " + text, old.address(k), fresh.address(k));
            Check.same("letter(" + k + ", 0) of " + text, old.letter(k, 0), fresh.letter(k, 0));
        }
    }
}
