import java.io.IOException;
import java.lang.reflect.Method;
import java.lang.reflect.Modifier;
import java.nio.file.Files;
import java.nio.file.Path;
import java.util.Arrays;
import java.util.regex.Matcher;
import java.util.regex.Pattern;

/** What README.md says of the class is so: each answer of its example, and a word on each call. */
public final class ReadmeTest {
    private static final Check CHECK = new Check("ReadmeTest");
    private static final Pattern EXAMPLE = Pattern.compile("(?s)```java\n(.*?)```");
    private static final Pattern TEXT = Pattern.compile("String text = \"([^\"]*)\";");
    private static final Pattern ASKED = Pattern.compile("(?m)^x\\.(\\w+)\\(([^)]*)\\); +// (-?[0-9]+)\\b");

    public static void main(String[] args) throws IOException, ReflectiveOperationException {
        String readme = Files.readString(Path.of("README.md"));
        Matcher example = EXAMPLE.matcher(readme);
        CHECK.holds("there is an example", example.find());
        play(example.group(1));
        namesEachCall(readme);
        CHECK.holds("how to run the tests", readme.contains(".ci/run"));
        CHECK.end();
    }

    private static void play(String example) throws ReflectiveOperationException {
        Matcher text = TEXT.matcher(example);
        CHECK.holds("the example has a text", text.find());
        MangleLine x = Check.fed(new MangleLine(), text.group(1));
        Matcher asked = ASKED.matcher(example);
        int calls = 0;
        while (asked.find()) {
            calls++;
            CHECK.due(asked.group(1) + "(" + asked.group(2) + ")", answer(x, asked.group(1), asked.group(2)),
                Long.parseLong(asked.group(3)));
        }
        // A line that the pattern misses would not be tested at all.
        CHECK.due("lines of the example with an answer", calls, example.lines().filter(l -> l.startsWith("x.")).count());
    }

    private static long answer(MangleLine x, String name, String listed) throws ReflectiveOperationException {
        Object[] given = listed.isEmpty() ? new Object[0]
            : Pattern.compile(", *").splitAsStream(listed).map(ReadmeTest::number).toArray();
        Class<?>[] ints = new Class<?>[given.length];
        Arrays.fill(ints, int.class);
        return ((Number) MangleLine.class.getMethod(name, ints).invoke(x, given)).longValue();
    }

    private static Integer number(String written) {
        return written.startsWith("'") ? (Integer) (int) written.charAt(1) : Integer.valueOf(written);
    }

    private static void namesEachCall(String readme) {
        for (Method m : MangleLine.class.getDeclaredMethods()) {
            if (Modifier.isPublic(m.getModifiers())) {
                CHECK.holds("README.md has a word on " + m.getName(), readme.contains("`" + m.getName() + "`"));
            }
        }
    }
}
