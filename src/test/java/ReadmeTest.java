import java.io.ByteArrayOutputStream;
import java.io.IOException;
import java.io.PrintStream;
import java.lang.reflect.Method;
import java.lang.reflect.Modifier;
import java.nio.file.Files;
import java.nio.file.Path;

/** README.md tells the example as it is, what it prints, and what each method is for. */
public final class ReadmeTest {
    public static void main(String[] args) throws IOException {
        Path root = Path.of(args.length > 0 ? args[0] : ".");
        String readme = Files.readString(root.resolve("README.md"));
        Check.due("the example", block(readme, "java"), Files.readString(root.resolve("src/test/java/Example.java")));
        Check.due("what it prints", printed(), block(readme, "text"));
        for (Method method : DrawingHouse.class.getDeclaredMethods()) {
            if (Modifier.isPublic(method.getModifiers())) {
                Check.due(method.getName() + " is told", readme.contains("| `" + method.getName() + "("), true);
            }
        }
        Check.due("the command", readme.contains("```sh\n.ci/run\n```"), true);
        Check.end();
    }

    private static String block(String readme, String language) {
        String fence = "```" + language + "\n";
        int start = readme.indexOf(fence);
        return start < 0 ? "" : readme.substring(start + fence.length(), readme.indexOf("```\n", start + fence.length()));
    }

    private static String printed() {
        PrintStream console = System.out;
        ByteArrayOutputStream caught = new ByteArrayOutputStream();
        System.setOut(new PrintStream(caught, true));
        Example.main(new String[0]);
        System.setOut(console);
        return caught.toString().replace("\r\n", "\n");
    }
}
