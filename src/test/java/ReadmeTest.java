import java.io.IOException;
import java.lang.reflect.Method;
import java.nio.charset.StandardCharsets;
import java.nio.file.Files;
import java.nio.file.Path;
import java.util.TreeSet;
import java.util.regex.Matcher;
import java.util.regex.Pattern;
import java.util.stream.Stream;

/** What README.md says holds as it is written there: its examples, the tests and classes that it names. Run from the project's folder. */
public final class ReadmeTest {
    private static final Checks c = new Checks();
    private static final Pattern CALL = Pattern.compile("x\\.(\\w+)\\(([^)]*)\\); +// (-?\\d+|true|false)\\b.*");

    private CoinCircle x;
    private final StringBuilder tape = new StringBuilder();
    private final StringBuilder text = new StringBuilder();
    private int calls;
    private final TreeSet<String> called = new TreeSet<>();

    private static String read(String file) throws IOException {
        return Files.readString(Path.of(file), StandardCharsets.UTF_8);
    }

    private static int[] numbers(String list) {
        if (list.isEmpty()) return new int[0];
        String[] told = list.split(", ");
        int[] all = new int[told.length];
        for (int k = 0; k < told.length; k++) all[k] = Long.decode(told[k]).intValue();
        return all;
    }

    /** The call's answer, a boolean as 1 or 0. */
    private int answer(String name, int[] given) throws ReflectiveOperationException {
        Class<?>[] types = new Class<?>[given.length];
        Object[] values = new Object[given.length];
        for (int k = 0; k < given.length; k++) {
            types[k] = int.class;
            values[k] = given[k];
        }
        Method m = CoinCircle.class.getMethod(name, types);
        Object got = m.invoke(x, values);
        return got instanceof Boolean ? (Boolean) got ? 1 : 0 : (Integer) got;
    }

    /** The text that the comment tells is the one that is on the tape when it is told. */
    private void follow(String name, int[] given) {
        if (name.equals("feed")) {
            for (int v : given) for (int k = 24; k >= 0; k -= 8) tape.append((char) (v >>> k & 255));
        } else if (name.equals("end")) {
            tape.setLength(given[0]);
        } else if (name.equals("society")) {
            c.same("society()", tape.toString(), text.toString());
        }
        if (name.equals("society") || name.equals("letters") || name.equals("on")) {
            tape.setLength(0);
            text.setLength(0);
        }
    }

    private void line(String line) throws ReflectiveOperationException {
        if (line.startsWith("// text: ")) {
            text.append(line.substring(9));
        } else if (line.equals("CoinCircle x = new CoinCircle();")) {
            x = new CoinCircle();
        } else if (!line.isEmpty() && !line.startsWith("//")) {
            Matcher m = CALL.matcher(line);
            boolean isCall = m.matches();
            c.due("a call and its answer: " + line, isCall && x != null, true);
            if (!isCall || x == null) return;
            String want = m.group(3);
            int[] given = numbers(m.group(2));
            follow(m.group(1), given);
            c.due(line, answer(m.group(1), given), want.equals("true") ? 1 : want.equals("false") ? 0 : Integer.parseInt(want));
            called.add(m.group(1));
            calls++;
        }
    }

    private void examples(String readme) throws ReflectiveOperationException {
        c.at("README.md, examples");
        Matcher block = Pattern.compile("(?s)```java\n(.*?)```").matcher(readme);
        while (block.find()) for (String line : block.group(1).split("\n")) line(line);
        c.due("there are some", calls > 0, true);
        for (Method m : CoinCircle.class.getMethods()) {
            if (m.getDeclaringClass() == CoinCircle.class) c.due(m.getName() + " is there", called.contains(m.getName()), true);
        }
    }

    private static TreeSet<String> found(String pattern, String text) {
        TreeSet<String> all = new TreeSet<>();
        Matcher m = Pattern.compile(pattern).matcher(text);
        while (m.find()) all.add(m.group(1));
        return all;
    }

    private static void names(String readme) throws IOException {
        c.at("README.md, names");
        TreeSet<String> files = new TreeSet<>();
        try (Stream<Path> all = Files.list(Path.of("src/test/java"))) {
            all.forEach(p -> files.add(p.getFileName().toString().replace(".java", "")));
        }
        files.removeIf(name -> !name.endsWith("Test"));
        c.same("the tests", found("`(\\w+Test)`", readme).toString(), files.toString());
        TreeSet<String> inside = new TreeSet<>();
        for (Class<?> type : CoinCircle.class.getDeclaredClasses()) inside.add(type.getSimpleName());
        String built = readme.substring(readme.indexOf("## How it is built"), readme.indexOf("## How to run its tests"));
        c.same("the classes inside", found("`([A-Z]\\w+)`", built).toString(), inside.toString());
        for (String file : found("`((?:src|\\.ci)/[^`]*)`", readme)) c.due(file + " is there", Files.exists(Path.of(file)), true);
        c.due(".ci/run can be run", Files.isExecutable(Path.of(".ci/run")), true);
    }

    public static void main(String[] args) throws IOException, ReflectiveOperationException {
        String readme = read("README.md");
        new ReadmeTest().examples(readme);
        names(readme);
        c.finish();
    }
}
