import java.io.ByteArrayOutputStream;
import java.io.IOException;
import java.io.PrintStream;
import java.lang.reflect.Method;
import java.nio.charset.StandardCharsets;
import java.nio.file.Files;
import java.nio.file.Path;
import java.util.regex.Matcher;
import java.util.regex.Pattern;

/** README.md shows the example as it stands, what it prints, and every call of the class. */
public final class ReadmeTests {
    private ReadmeTests() {
    }

    public static void main(String[] args) throws IOException {
        String readme = read("README.md");
        isSame("README.md shows example/Peal.java", block(readme, "java"), read("example/Peal.java"));
        isSame("README.md shows what it prints", block(readme, "text"), printedByPeal());
        for (Method m : Watched.calls()) {
            Due.is("README.md: parameters of " + m.getName(), parametersShown(readme, m.getName()), m.getParameterCount());
        }
        Due.close("ReadmeTests");
    }

    private static String read(String file) throws IOException {
        return Files.readString(Path.of(file)).replace("\r\n", "\n");
    }

    private static void isSame(String what, String got, String want) {
        Due.is(what, got.equals(want), true);
    }

    /** The first block of a kind; an empty text, if there is none. */
    private static String block(String readme, String kind) {
        Matcher found = Pattern.compile("^```" + kind + "\n(.*?)^```$", Pattern.DOTALL | Pattern.MULTILINE).matcher(readme);
        return found.find() ? found.group(1) : "";
    }

    private static String printedByPeal() {
        PrintStream out = System.out;
        ByteArrayOutputStream printed = new ByteArrayOutputStream();
        System.setOut(new PrintStream(printed, true, StandardCharsets.UTF_8));
        Peal.main(new String[0]);
        System.setOut(out);
        return printed.toString(StandardCharsets.UTF_8).replace("\r\n", "\n");
    }

    /** How many parameters the table of calls shows for a call; -1, if it is not there. */
    private static int parametersShown(String readme, String name) {
        Matcher found = Pattern.compile("^\\| `" + name + "\\((.*?)\\)` \\|", Pattern.MULTILINE).matcher(readme);
        if (!found.find()) {
            return -1;
        }
        return found.group(1).isEmpty() ? 0 : found.group(1).split(",").length;
    }
}
