import java.io.IOException;
import java.lang.reflect.Method;
import java.lang.reflect.Modifier;
import java.nio.charset.StandardCharsets;
import java.nio.file.Files;
import java.nio.file.Path;
import java.util.ArrayList;
import java.util.List;
import java.util.regex.Matcher;
import java.util.regex.Pattern;
import java.util.stream.Stream;

/** What README.md says of the class holds: its calls answer as it tells, it names each call and each test. */
public final class ReadmeTest {
    private static final Due DUE = new Due("ReadmeTest");
    private static final Pattern TEXT = Pattern.compile("String text = \"(.*)\";");
    private static final Pattern CALL = Pattern.compile("ears\\.(\\w+)\\((.*)\\); +// (-?\\d+): .*");
    private static final Pattern BARE = Pattern.compile("ears\\.(\\w+)\\([-\\d, ]*\\);");

    public static void main(String[] args) throws IOException, ReflectiveOperationException {
        String page = Files.readString(Path.of("README.md"), StandardCharsets.UTF_8);
        playExamples(page.split("\n"));
        namesEachCall(page);
        namesEachTest(page);
        DUE.finish();
    }

    private static void playExamples(String[] lines) throws ReflectiveOperationException {
        HullEars ears = new HullEars();
        String text = "";
        int played = 0;
        for (String line : lines) {
            Matcher typed = TEXT.matcher(line);
            if (typed.matches()) {
                text = typed.group(1);
                Due.type(ears, text);
            }
            Matcher call = CALL.matcher(line);
            if (call.matches()) {
                String numbers = call.group(2).replace("text.length()", "" + text.length());
                DUE.same(line, answer(ears, call.group(1), numbers), Long.parseLong(call.group(3)));
                played++;
            }
            DUE.yes("told with its answer: " + line, call.matches() || !BARE.matcher(line).lookingAt());
        }
        DUE.yes("there are examples", played > 20);
    }

    private static long answer(HullEars ears, String name, String numbers) throws ReflectiveOperationException {
        List<Object> given = new ArrayList<>();
        for (String number : numbers.isBlank() ? new String[0] : numbers.split(",")) {
            given.add(Integer.valueOf(number.trim()));
        }
        Class<?>[] types = new Class<?>[given.size()];
        java.util.Arrays.fill(types, int.class);
        Object found = HullEars.class.getMethod(name, types).invoke(ears, given.toArray());
        return ((Number) found).longValue();
    }

    private static void namesEachCall(String page) {
        for (Method m : HullEars.class.getDeclaredMethods()) {
            if (Modifier.isPublic(m.getModifiers())) {
                DUE.yes("README.md names " + m.getName(), page.contains("`" + m.getName() + "`"));
            }
        }
    }

    private static void namesEachTest(String page) throws IOException {
        try (Stream<Path> files = Files.list(Path.of("src/test/java"))) {
            for (Path file : files.sorted().toList()) {
                String name = file.getFileName().toString();
                if (name.endsWith("Test.java")) {
                    DUE.yes("README.md names " + name, page.contains("| `" + name.replace(".java", "") + "` |"));
                }
            }
        }
    }
}
