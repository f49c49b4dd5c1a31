import java.io.IOException;
import java.lang.reflect.Method;
import java.lang.reflect.Modifier;
import java.nio.charset.StandardCharsets;
import java.nio.file.Files;
import java.nio.file.Path;

/** README.md says how to use the class: each call is named, and the example answers as it says. */
public final class ReadmeTest {
    private static String readme;

    private ReadmeTest() {
    }

    public static void main(String[] args) throws IOException {
        readme = Files.readString(Path.of("README.md"), StandardCharsets.UTF_8);
        everyCallIsNamed();
        example();
        Check.finish();
    }

    private static void everyCallIsNamed() {
        for (Method m : PromiseValley.class.getDeclaredMethods()) {
            if (Modifier.isPublic(m.getModifiers())) {
                Check.due("README.md names " + m.getName(), readme.contains("`" + m.getName() + "`"), true);
            }
        }
    }

    private static void example() {
        PromiseValley x = new PromiseValley();
        says("x.feed(0x666f6c6b, 0x20363020, 0x343b2020, 0x20202020, 0x20202020);",
            x.feed(0x666f6c6b, 0x20363020, 0x343b2020, 0x20202020, 0x20202020));
        says("x.end(10);", x.end(10));
        says("x.text(0, -1);", x.text(0, -1));
        says("x.fault(0);", x.fault(0));
        says("x.valley(0, 10);", x.valley(0, 10));
        says("x.valley(0, 20);", x.valley(0, 20));
        says("x.count(0);", x.count(0));
    }

    /** The example's line is the call, then what it answers, then why. */
    private static void says(String call, int answer) {
        int at = readme.indexOf(call);
        Check.due("README.md has " + call, at >= 0, true);
        String rest = at < 0 ? "" : readme.substring(at + call.length()).split("\n")[0].trim();
        Check.due(call + " is " + answer + " in README.md: " + rest, rest.startsWith("// " + answer + ":"), true);
    }
}
