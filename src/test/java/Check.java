/** What the tests share: calls in short, and a count of the answers that are not due. */
final class Check {
    private static int wrong = 0;
    private static String sentence = "";

    private Check() {
    }

    /** The document's words that the calls from here on test. */
    static void says(String words) {
        sentence = words;
    }

    static void same(String what, long got, long want) {
        if (got != want) {
            tell(what, Long.toString(got), Long.toString(want));
        }
    }

    static void same(String what, String got, String want) {
        if (!got.equals(want)) {
            tell(what, got, want);
        }
    }

    private static void tell(String what, String got, String want) {
        wrong++;
        String call = what.length() > 200 ? what.substring(0, 200) + " .." : what;
        System.out.println(call + ": answered " + got + ", due is " + want
                + (sentence.isEmpty() ? "" : " (\"" + sentence + "\")"));
    }

    /** A call that must throw just this class. */
    static void fails(String what, Class<? extends RuntimeException> due, Runnable call) {
        String got = "nothing";
        try {
            call.run();
        } catch (RuntimeException e) {
            got = e.getClass().getSimpleName();
        }
        same(what + " throws", got, due.getSimpleName());
    }

    static void feedAll(LineAssembler x, String text) {
        for (int at = 0; at < text.length(); at += 8) {
            int n = Math.min(8, text.length() - at);
            long chars = 0;
            for (int i = 0; i < n; i++) {
                chars = chars << 8 | text.charAt(at + i);
            }
            same("feed of " + text.substring(at, at + n), x.feed(chars, n) ? 1 : 0, 1);
        }
    }

    static LineAssembler fed(String text) {
        LineAssembler x = new LineAssembler();
        feedAll(x, text);
        return x;
    }

    /** An object with a text that must have no fault. */
    static LineAssembler assembled(String text) {
        LineAssembler x = fed(text);
        same("assemble of " + text, x.assemble(), 0);
        return x;
    }

    /** The text must have this fault in this line. */
    static void fault(String text, int fault, int line) {
        same("assemble of " + text, fed(text).assemble(), fault + 16L * line);
    }

    /** The bytes of all, as the text's hexadecimal digits, the first byte first. */
    static String bytes(LineAssembler x) {
        StringBuilder all = new StringBuilder();
        for (int k = 0; k < x.size(2); k++) {
            all.append(String.format("%02x", x.byteAt(k)));
        }
        return all.toString();
    }

    static void bytes(String text, String due) {
        LineAssembler x = fed(text);
        int answer = x.assemble();
        same("bytes of " + text, answer == 0 ? bytes(x) : "fault " + answer, due);
    }

    /** A statement's bytes as instructions are written: the last byte first. */
    static void word(String text, String due) {
        StringBuilder first = new StringBuilder();
        for (int i = due.length() - 2; i >= 0; i -= 2) {
            first.append(due, i, i + 2);
        }
        bytes(text, first.toString());
    }

    /** A statement's four bytes, by their value. */
    static void word(String text, int due) {
        word(text, String.format("%08x", due));
    }

    /** A statement's two bytes, by their value. */
    static void half(String text, int due) {
        word(text, String.format("%04x", due));
    }

    /** The text must have no fault. */
    static void good(String text) {
        fault(text, 0, 0);
    }

    /** A 4-byte value of an expression, as .word has it. */
    static void value(String expression, int due) {
        word(".word " + expression, due);
    }

    static String name(LineAssembler x, int k) {
        StringBuilder all = new StringBuilder();
        try {
            for (int i = 0; i < 40; i++) {
                all.append(x.letter(k, i));
            }
        } catch (IndexOutOfBoundsException e) {
            return all.toString();
        }
        return "no end";
    }

    static void end() {
        if (wrong != 0) {
            System.out.println(wrong + " answers are not as due");
            System.exit(1);
        }
    }
}
