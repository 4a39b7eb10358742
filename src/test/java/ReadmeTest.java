import java.io.ByteArrayOutputStream;
import java.io.IOException;
import java.io.PrintStream;
import java.nio.file.Files;
import java.nio.file.Path;

/** README.md's example is the one below, and prints what stands there. */
final class ReadmeTest {
    public static void main(String[] args) throws IOException {
        String readme = Files.readString(Path.of("README.md"));
        String source = Files.readString(Path.of("src/test/java/ReadmeTest.java"));
        Check.same("the example's code", body(source), block(readme, "```java\n"));
        Check.same("what it prints", printed(), block(readme, "```text\n"));
        Check.end();
    }

    private static String block(String readme, String begin) {
        int at = readme.indexOf(begin);
        int end = at < 0 ? -1 : readme.indexOf("```", at + begin.length());
        return end < 0 ? "no block" : readme.substring(at + begin.length(), end);
    }

    /** The lines of runExample, moved to the left. */
    private static String body(String source) {
        String begin = "private static void runExample() {\n";
        int at = source.lastIndexOf(begin) + begin.length();
        return source.substring(at, source.indexOf("\n    }\n", at) + 1).replaceAll("(?m)^ {8}", "");
    }

    private static String printed() {
        PrintStream before = System.out;
        ByteArrayOutputStream bytes = new ByteArrayOutputStream();
        System.setOut(new PrintStream(bytes, true));
        runExample();
        System.setOut(before);
        return bytes.toString().replace("\r", "");
    }

    private static void runExample() {
        String text = "start: li a0, 3\nloop: addi a0, a0, -1\n bnez a0, loop\n ret\n";
        LineAssembler x = new LineAssembler();
        for (int at = 0; at < text.length(); at += 8) {
            int n = Math.min(8, text.length() - at);
            long chars = 0;
            for (int i = 0; i < n; i++) {
                chars = chars << 8 | text.charAt(at + i);
            }
            x.feed(chars, n);
        }
        int answer = x.assemble();
        if (answer != 0) {
            System.out.println("fault " + answer % 16 + " in line " + answer / 16);
            return;
        }
        for (int k = 0; k < x.size(2); k++) {
            System.out.println(k + ": " + x.byteAt(k) + " of line " + x.line(k));
        }
        for (int k = 0; k < x.size(3); k++) {
            System.out.println(x.letter(k, 0) + ".. is at " + x.address(k));
        }
        System.out.println("label " + x.before(5) + " is the one before 5");
    }
}
