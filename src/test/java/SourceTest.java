import java.io.IOException;
import java.nio.file.Files;
import java.nio.file.Path;
import java.util.List;
import java.util.regex.Matcher;
import java.util.regex.Pattern;

/** What of LANGUAGE.md can be seen by looking for words in the source: nothing that it leaves out, and no catching at all. */
public final class SourceTest {
    private static final String[] NOWHERE = {"->", "::", "\\bcatch\\b", "\\btry\\b", "\\bfinally\\b", "\\bassert\\b", "\\bsynchronized\\b",
        "\\bvar\\b", "\\bvolatile\\b", "\\bpackage\\b", "\\binterface\\s*<", "\\w+Exact\\b", "\\bobject\\s*\\.", "\\bgetClass\\b", "\\bhashCode\\b",
        "\\bString\\.\\w+", "\\bThread\\b", "\\bRandom\\b", "\\bObject\\b", "\"\\s*\\+", "\\+\\s*\"", "\\bnew Integer\\b", "static\\s*\\{"};
    private static final List<String> OF_SYSTEM = List.of("System.arraycopy");
    private static final List<String> OF_ARRAYS = List.of("Arrays.fill", "Arrays.copyOf", "Arrays.copyOfRange");
    private static final List<String> OF_MATH = List.of("Math.min", "Math.max", "Math.abs", "Math.floorMod", "Math.floorDiv");
    private static final List<String> OF_INTEGER = List.of("Integer.bitCount");
    private static final List<String> THROWN = List.of("IllegalArgumentException", "IndexOutOfBoundsException", "NoSuchElementException",
        "IllegalStateException", "UnsupportedOperationException");

    private static final Pattern METHOD = Pattern.compile("\\n(?<indent>(?: {4}){1,2})(?<is>(?:(?:public|private|static|final|abstract) )*)"
        + "(?:\\w+(?:\\[\\])? )?(?<name>\\w+)\\((?<parameters>[^)]*)\\)[\\w, ]*\\{\n(?<body>(?s:.*?))\n\\k<indent>\\}");

    public static void main(String[] args) throws IOException {
        String source = Files.readString(Path.of("src/main/java/CheekTown.java"));
        Checks.due("signs are ASCII", source.chars().allMatch(c -> c == '\n' || c >= 32 && c < 127), true);
        String code = source.replaceAll("(?s)/\\*.*?\\*/", "").replaceAll("//[^\n]*", "");
        for (String word : NOWHERE) {
            Matcher m = Pattern.compile(word).matcher(code);
            Checks.due("no " + word, m.find(), false);
        }
        only(code, "\\bSystem\\.\\w+", OF_SYSTEM);
        only(code, "\\bArrays\\.\\w+", OF_ARRAYS);
        only(code, "\\bMath\\.\\w+", OF_MATH);
        only(code, "\\bInteger\\.\\w+", OF_INTEGER);
        only(code, "(?<=throw new )\\w+", THROWN);
        only(code, "(?<=\\bimport )[\\w.]+", List.of("java.util.Arrays", "java.util.NoSuchElementException"));
        Checks.due("a throw is of a new exception", code.split("\\bthrow\\b").length, code.split("\\bthrow new \\w+\\(\"[a-z0-9 ]*\"\\);").length);
        lookAtMethods(code);
        Checks.finish();
    }

    /** Some sixty lines, seven parameters; and what calls itself (not on parts of itself, x.copyFrom(y.z)) is private and static. */
    private static void lookAtMethods(String code) {
        Matcher m = METHOD.matcher(code);
        int methods = 0;
        while (m.find()) {
            methods++;
            String name = m.group("name");
            String body = m.group("body");
            Checks.due(name + " is short", body.split("\n").length <= 60, true);
            Checks.due(name + " has seven parameters at most", m.group("parameters").split(",").length <= 7, true);
            boolean callsItself = Pattern.compile("(?<![.\\w])" + name + "\\(").matcher(body).find();
            Checks.due(name + " calls itself", callsItself && !m.group("is").startsWith("private static "), false);
        }
        Checks.due("methods are seen", methods > 150, true);
    }

    private static void only(String code, String pattern, List<String> allowed) {
        Matcher m = Pattern.compile(pattern).matcher(code);
        boolean seen = false;
        while (m.find()) {
            seen = true;
            Checks.due(m.group() + " is allowed", allowed.contains(m.group()), true);
        }
        Checks.due("there are some of " + pattern, seen, true);
    }
}
