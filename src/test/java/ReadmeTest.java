import java.io.IOException;
import java.lang.reflect.Field;
import java.lang.reflect.Method;
import java.lang.reflect.Modifier;
import java.nio.file.DirectoryStream;
import java.nio.file.Files;
import java.nio.file.Path;
import java.util.Arrays;
import java.util.TreeSet;
import java.util.regex.Matcher;
import java.util.regex.Pattern;

/**
 * README.md tells the truth: its calls answer what stands behind them, its tables list each method
 * with its codes and each code with its value, and its list of tests is whole.
 */
public final class ReadmeTest {
    private static final Pattern SHOWN = Pattern.compile("coder\\.(\\w+)\\(([^)]*)\\);\\s*// (-?\\d+).*");
    private static final Pattern METHOD_LINE = Pattern.compile("\\| `(\\w+)\\(([^)]*)\\)` \\|.*\\|(.*)\\|");
    private static final Pattern CODE_LINE = Pattern.compile("\\| `([A-Z_]+)` \\| (-?\\d+) \\|.*");
    private static final Pattern TEST_LINE = Pattern.compile("- `src/test/java/(\\w+\\.java)`:.*");
    private static final Pattern CODE_NAME = Pattern.compile("`([A-Z_]+)`");
    private static final int SEEDS = 40;

    private static int wrong = 0;

    private static void due(String what, Object got, Object want) {
        if (!want.equals(got)) {
            wrong++;
            System.out.println("README.md: " + what + " is " + got + ", due is " + want);
        }
    }

    private static int[] numbers(String list) {
        return list.isBlank() ? new int[0]
            : Arrays.stream(list.split(",")).mapToInt(part -> Integer.parseInt(part.trim())).toArray();
    }

    private static Method method(String name, int parameters) throws NoSuchMethodException {
        Class<?>[] types = new Class<?>[parameters];
        Arrays.fill(types, int.class);
        return CosetCoder.class.getMethod(name, types);
    }

    private static long call(CosetCoder coder, String name, int... values) throws ReflectiveOperationException {
        Object[] boxed = Arrays.stream(values).boxed().toArray();
        return ((Number) method(name, values.length).invoke(coder, boxed)).longValue();
    }

    private static void checkShownCalls(String[] lines) throws ReflectiveOperationException {
        CosetCoder coder = null;
        int seen = 0;
        for (String line : lines) {
            Matcher shown = SHOWN.matcher(line);
            if (line.equals("CosetCoder coder = new CosetCoder();")) {
                coder = new CosetCoder();
            } else if (shown.matches()) {
                seen++;
                due(line, call(coder, shown.group(1), numbers(shown.group(2))), Long.parseLong(shown.group(3)));
            } else {
                due("a call without an answer: " + line, line.startsWith("coder."), false);
            }
        }
        due("that calls are shown", seen > 0, true);
    }

    private static TreeSet<String> publicMethods() {
        TreeSet<String> names = new TreeSet<>();
        for (Method method : CosetCoder.class.getDeclaredMethods()) {
            if (Modifier.isPublic(method.getModifiers())) {
                names.add(method.getName() + "/" + method.getParameterCount());
            }
        }
        return names;
    }

    private static void checkMethods(String[] lines) throws ReflectiveOperationException {
        TreeSet<String> listed = new TreeSet<>();
        for (String line : lines) {
            Matcher found = METHOD_LINE.matcher(line);
            if (found.matches()) {
                int parameters = found.group(2).isEmpty() ? 0 : found.group(2).split(",").length;
                listed.add(found.group(1) + "/" + parameters);
                checkCodesOf(found.group(1), parameters, found.group(3));
            }
        }
        due("the list of methods", listed, publicMethods());
    }

    /** Calls in many states, with arguments of all sorts, answer just the codes that are listed. */
    private static void checkCodesOf(String name, int parameters, String list) throws ReflectiveOperationException {
        TreeSet<Long> listed = new TreeSet<>();
        Matcher codes = CODE_NAME.matcher(list);
        while (codes.find()) {
            listed.add((long) CosetCoder.class.getField(codes.group(1)).getInt(null));
        }
        TreeSet<Long> answered = new TreeSet<>();
        int[] sorts = {-1, 0, 1, 2, 3, 63, 64, 255, 256};
        for (int seed = 0; seed < SEEDS; seed++) {
            for (int pick = 0; pick < Math.pow(sorts.length, parameters); pick++) {
                int[] values = new int[parameters];
                for (int i = 0, rest = pick; i < parameters; i++, rest /= sorts.length) {
                    values[i] = sorts[rest % sorts.length];
                }
                long answer = call(someCoder(seed), name, values);
                if (answer < 0 && !name.equals("digest")) {
                    answered.add(answer);
                }
            }
        }
        due("the codes of " + name, listed, answered);
    }

    /** A coder of some length with some rows; for some seeds it is as new, so that nothing is saved. */
    private static CosetCoder someCoder(int seed) {
        CosetCoder coder = new CosetCoder();
        int rows = seed % 8;
        if (rows == 7) {
            return coder;
        }
        int length = 1 + seed % 5;
        int greatest = (1 << length) - 1;
        coder.setLength(length);
        for (int i = 0; i < rows; i++) {
            coder.addRow(1 + (seed * 7 + i * 5) % greatest, (seed / 8 + i) % 2);
        }
        return coder;
    }

    private static void checkCodes(String[] lines) throws IllegalAccessException {
        TreeSet<String> listed = new TreeSet<>();
        for (String line : lines) {
            Matcher found = CODE_LINE.matcher(line);
            if (found.matches()) {
                listed.add(found.group(1) + "=" + found.group(2));
            }
        }
        TreeSet<String> constants = new TreeSet<>();
        for (Field field : CosetCoder.class.getFields()) {
            constants.add(field.getName() + "=" + field.getInt(null));
        }
        due("the list of codes", listed, constants);
    }

    private static void checkTests(String[] lines) throws IOException {
        TreeSet<String> listed = new TreeSet<>();
        for (String line : lines) {
            Matcher found = TEST_LINE.matcher(line);
            if (found.matches()) {
                listed.add(found.group(1));
            }
        }
        TreeSet<String> files = new TreeSet<>();
        try (DirectoryStream<Path> tests = Files.newDirectoryStream(Path.of("src/test/java"))) {
            for (Path test : tests) {
                files.add(test.getFileName().toString());
            }
        }
        due("the list of tests", listed, files);
    }

    public static void main(String[] args) throws IOException, ReflectiveOperationException {
        String[] lines = Files.readString(Path.of("README.md")).split("\\R");
        checkShownCalls(lines);
        checkMethods(lines);
        checkCodes(lines);
        checkTests(lines);
        if (wrong > 0) {
            System.exit(1);
        }
    }
}
