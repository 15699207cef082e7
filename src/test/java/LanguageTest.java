import java.io.IOException;
import java.nio.charset.StandardCharsets;
import java.nio.file.Files;
import java.nio.file.Path;
import java.util.ArrayList;
import java.util.Arrays;
import java.util.List;
import java.util.TreeSet;
import java.util.regex.Matcher;
import java.util.regex.Pattern;

/** What of ../shared/LANGUAGE.md can be seen from the text of the class alone. Run from the project's folder. */
public final class LanguageTest {
    private static int wrong;

    private static void must(boolean fine, String what) {
        if (!fine) {
            wrong++;
            System.out.println("LANGUAGE.md: " + what);
        }
    }

    /** The source without its comments, its texts and characters emptied. */
    private static String bare(String source) {
        return source.replaceAll("(?s)/\\*.*?\\*/", "").replaceAll("//[^\n]*", "")
            .replaceAll("\"(\\\\.|[^\"\\\\\n])*\"", "\"\"").replaceAll("'(\\\\.|[^'\\\\\n])'", "' '");
    }

    private static List<String> found(String pattern, String text) {
        List<String> all = new ArrayList<>();
        Matcher m = Pattern.compile(pattern).matcher(text);
        while (m.find()) all.add(m.group().trim());
        return all;
    }

    public static void main(String[] args) throws IOException {
        String source = Files.readString(Path.of("src/main/java/CoinCircle.java"), StandardCharsets.ISO_8859_1);
        String code = bare(source);
        must(!source.startsWith("package") && !code.contains("\npackage "), "no package line");
        must(found("\\b(throw|throws|try|catch|finally|synchronized|assert|native|volatile|transient|instanceof|var|yield|Object"
            + "|System\\.(?!arraycopy)\\w+|Thread|Runtime|Class|Random|null)\\b", code).isEmpty(), "6, 13: a word that may not stand: "
            + found("\\b(throw|throws|try|catch|finally|synchronized|assert|native|volatile|transient|instanceof|var|yield|Object"
            + "|System\\.(?!arraycopy)\\w+|Thread|Runtime|Class|Random|null)\\b", code));
        must(found("->|::", code).isEmpty(), "2: a lambda or a method reference");
        must(found("\\bimport [^;]+;", code).equals(Arrays.asList("import java.util.Arrays;")), "4: what is imported");
        must(found("Math\\.\\w+Exact", code).isEmpty(), "4: a function whose name ends in Exact");
        must(found("(?m)^\\s*(private |public )?static (?!final |boolean \\w+\\(|int \\w+\\(|long \\w+\\()[^\n]*", code).isEmpty(),
            "5: static fields are final");
        must(found("\\b(for|while) ?\\( ?(;;|true)", code).isEmpty(), "9: a loop without an end");
        must(found("\\bclass \\w+", code).size() <= 12, "11: the file has at most some twelve classes");
        must(found("(?m)^    (public|protected) ", code).size() == 34, "1: the face: a constant, a constructor, 32 methods");
        must(found("\\[\\]\\[\\]\\[\\]", code).isEmpty(), "3: three dimensions");
        for (char c : source.toCharArray()) must(c < 127, "3: a sign above 126");
        methods(code);
        System.out.println(wrong == 0 ? "the class keeps to what can be seen here" : wrong + " rules broken");
        if (wrong != 0) System.exit(1);
    }

    private static void methods(String code) {
        String[] lines = code.split("\n");
        TreeSet<String> face = new TreeSet<>();
        TreeSet<String> others = new TreeSet<>();
        for (int k = 0; k < lines.length; k++) {
            Matcher m = Pattern.compile("^( +)(?:(?:private|public|static|final) )*[\\w\\[\\]]+ (\\w+)\\(([^)]*)\\) \\{$").matcher(lines[k]);
            if (!m.find() || lines[k].contains(" new ") || lines[k].contains("else ") || lines[k].contains("return ")) continue;
            (lines[k].contains("public ") ? face : others).add(m.group(2));
            must(m.group(3).split(",").length <= 7, "11: parameters of " + m.group(2));
            int end = k;
            while (end < lines.length && !lines[end].equals(m.group(1) + "}")) end++;
            must(end - k < 60, "11: the length of " + m.group(2));
            // all that an object needs is made in constructors and fields: no run of calls can fill the room
            boolean makes = !m.group(2).equals("CoinCircle") && Arrays.asList(lines).subList(k, end).toString().contains("new ");
            must(!makes, "12: " + m.group(2) + " makes an object or an array");
        }
        must(face.size() == 33, "1: the face has a constructor and 32 methods, not " + face.size());
        for (String name : others) must(!face.contains(name), "1: a method of its own is named " + name);
    }
}
