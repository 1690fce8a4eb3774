import java.io.ByteArrayOutputStream;
import java.io.IOException;
import java.io.PrintStream;
import java.nio.charset.StandardCharsets;
import java.nio.file.Files;
import java.nio.file.Path;

/** The program that README.md shows is Example, and prints what README.md says. */
public final class ReadmeTest {
    public static void main(String[] args) throws IOException {
        String page = Files.readString(Path.of("README.md"));
        String example = Files.readString(Path.of("src/test/java/Example.java"));
        Check.due(1, "README.md shows Example", page.contains("```java\n" + example + "```\n"), true);
        Check.due(1, "README.md shows what it prints", page.contains("```text\n" + printed() + "```\n"), true);
        Check.due(1, "README.md says how the tests are run", page.contains("\n.ci/run\n"), true);
        Check.finish("ReadmeTest");
    }

    private static String printed() {
        PrintStream before = System.out;
        ByteArrayOutputStream kept = new ByteArrayOutputStream();
        System.setOut(new PrintStream(kept, true, StandardCharsets.UTF_8));
        Example.main(new String[0]);
        System.setOut(before);
        return kept.toString(StandardCharsets.UTF_8).replace("\r\n", "\n");
    }
}
