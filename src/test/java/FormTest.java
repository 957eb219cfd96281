import java.io.IOException;
import java.lang.reflect.Constructor;
import java.lang.reflect.Field;
import java.lang.reflect.Method;
import java.lang.reflect.Modifier;
import java.nio.charset.StandardCharsets;
import java.nio.file.Files;
import java.nio.file.Path;
import java.util.ArrayList;
import java.util.Arrays;
import java.util.List;
import java.util.Set;
import java.util.TreeSet;
import java.util.regex.Matcher;
import java.util.regex.Pattern;

/** The face of the document, and those rules of the language that can be seen from outside. */
public final class FormTest {
    private static final Due DUE = new Due("FormTest");

    private static final String[] FACE = {"boat 4", "leg 4", "where 3", "terms 2", "day 1", "layer 2", "reaches 3",
        "bearing 2", "heard 3", "echo 3", "wreck 2", "shoal 5", "known 2", "feed 5", "end 1", "row 0", "torn 0",
        "law 0", "fault 0", "runs 0", "run 2", "span 2", "misses 4", "alone 2", "within 4", "least 1", "guess 4",
        "better 1", "offer 2", "parts 3", "turn 2", "heardBy 3", "silent 3", "traces 1", "next 1", "sure 2",
        "watch 2", "cross 3", "pairings 1", "ghost 3", "beat 1", "screws 0", "screw 2", "tells 4", "hears 2",
        "cell 2", "search 2", "looks 2", "image 1", "back 1", "count 1", "status 0"};

    public static void main(String[] args) throws IOException {
        face();
        insides();
        words(Files.readString(Path.of("src/main/java/HullEars.java"), StandardCharsets.UTF_8));
        anyNumbersAtAll();
        DUE.finish();
    }

    private static void yes(String what, boolean is) {
        DUE.same(what, is ? 1 : 0, 1);
    }

    private static void face() {
        yes("final", Modifier.isFinal(HullEars.class.getModifiers()));
        Set<String> found = new TreeSet<>();
        Set<String> names = new TreeSet<>();
        for (Method m : HullEars.class.getDeclaredMethods()) {
            if (Modifier.isPublic(m.getModifiers())) {
                found.add(m.getName() + " " + m.getParameterCount());
                names.add(m.getName());
                yes("answer of " + m, m.getReturnType() == (m.getName().equals("search") ? long.class : int.class));
                yes("numbers of " + m, Arrays.stream(m.getParameterTypes()).allMatch(t -> t == int.class));
            } else {
                yes("private " + m, Modifier.isPrivate(m.getModifiers()));
            }
        }
        DUE.same("the face", found.equals(new TreeSet<>(List.of(FACE))) ? 1 : 0, 1);
        for (Class<?> c : all()) {
            for (Method m : c.getDeclaredMethods()) {
                boolean ofFace = c == HullEars.class && Modifier.isPublic(m.getModifiers());
                yes("no other method is called " + m, ofFace || !names.contains(m.getName()));
            }
        }
        Constructor<?>[] made = HullEars.class.getDeclaredConstructors();
        yes("one constructor", made.length == 1 && made[0].getParameterCount() == 0);
        for (Field f : HullEars.class.getDeclaredFields()) {
            yes("field " + f, f.getName().equals("NONE") || Modifier.isPrivate(f.getModifiers()));
        }
        DUE.same("NONE", HullEars.NONE, -1);
    }

    private static List<Class<?>> all() {
        List<Class<?>> classes = new ArrayList<>(List.of(HullEars.class));
        classes.addAll(List.of(HullEars.class.getDeclaredClasses()));
        return classes;
    }

    private static void insides() {
        yes("rule 11: classes", all().size() <= 12);
        for (Class<?> c : all()) {
            yes("rule 2: static " + c, c == HullEars.class || Modifier.isStatic(c.getModifiers()));
            int fields = 0;
            for (Field f : c.getDeclaredFields()) {
                if (Modifier.isStatic(f.getModifiers())) {
                    yes("rule 5: final " + f, Modifier.isFinal(f.getModifiers()));
                } else {
                    fields++;
                }
            }
            yes("rule 11: fields of " + c, fields <= 20);
            for (Method m : c.getDeclaredMethods()) {
                yes("rule 11: parameters of " + m, m.getParameterCount() <= 7);
            }
        }
    }

    private static void words(String source) {
        String code = source.replaceAll("(?s)/\\*.*?\\*/", " ").replaceAll("//[^\n]*", " ")
            .replaceAll("\"[^\"]*\"", "\"\"");
        String[] never = {"throw", "throws", "try", "catch", "finally", "synchronized", "assert", "package",
            "protected", "Random", "Thread", "currentTimeMillis", "nanoTime", "numberOfTrailingZeros", "instanceof",
            "double", "float", "Object", "println"};
        for (String word : never) {
            yes("never " + word, !Pattern.compile("\\b" + word + "\\b").matcher(code).find());
        }
        yes("rule 4: no Exact", !Pattern.compile("\\w+Exact\\b").matcher(code).find());
        yes("rule 2: no lambda", !code.contains("->") && !code.contains("::"));
        Matcher imports = Pattern.compile("import ([^;]+);").matcher(code);
        while (imports.find()) {
            yes("import " + imports.group(1), imports.group(1).equals("java.util.Arrays"));
        }
        Matcher library = Pattern.compile("\\b(Math|Integer|Long|System|Arrays)\\.(\\w+)").matcher(code);
        Set<String> allowed = Set.of("max", "min", "abs", "floorDiv", "floorMod", "bitCount", "compare", "arraycopy",
            "fill");
        while (library.find()) {
            yes("rule 4: " + library.group(), allowed.contains(library.group(2)));
        }
        yes("rule 4: texts of plain signs", source.chars().allMatch(c -> c < 128));
        lengths(code);
    }

    /** A method begins and ends at the depth of its class's members. */
    private static void lengths(String code) {
        int began = 0;
        String[] lines = code.split("\n", -1);
        for (int i = 0; i < lines.length; i++) {
            if (lines[i].matches("( {4}| {8})(\\w.*\\) \\{)")) began = i;
            if (lines[i].matches(" {4}\\}| {8}\\}")) yes("rule 11: lines " + began, i - began <= 60);
        }
    }

    /** No numbers, in no state, may let a call throw. */
    private static void anyNumbersAtAll() {
        int[] odd = {Integer.MIN_VALUE, Integer.MIN_VALUE + 1, -1001, -100, -24, -10, -4, -3, -2, -1, 0, 1, 2, 3, 4, 5,
            6, 7, 8, 9, 10, 23, 24, 25, 31, 32, 63, 64, 79, 80, 99, 100, 200, 201, 400, 401, 1000, 3000, 50175, 50176,
            60000, 60001, Integer.MAX_VALUE - 1, Integer.MAX_VALUE};
        java.util.Random random = new java.util.Random(5);
        Method[] methods = HullEars.class.getDeclaredMethods();
        Arrays.sort(methods, (a, b) -> a.getName().compareTo(b.getName()));
        for (int object = 0; object < 40; object++) {
            HullEars x = new HullEars();
            for (int i = 0; i < 512; i++) {
                Method m = methods[random.nextInt(methods.length)];
                if (Modifier.isPublic(m.getModifiers())) {
                    Object[] numbers = new Object[m.getParameterCount()];
                    for (int k = 0; k < numbers.length; k++) {
                        boolean small = random.nextInt(4) > 0;
                        numbers[k] = small ? random.nextInt(12) - 1 : odd[random.nextInt(odd.length)];
                    }
                    yes("rule 7: " + m.getName() + Arrays.toString(numbers), answers(m, x, numbers));
                }
            }
        }
    }

    private static boolean answers(Method m, HullEars x, Object[] numbers) {
        try {
            return m.invoke(x, numbers) != null;
        } catch (ReflectiveOperationException e) {
            return false;
        }
    }
}
