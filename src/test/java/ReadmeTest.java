import java.io.IOException;
import java.nio.file.Files;
import java.nio.file.Path;
import java.util.ArrayList;
import java.util.List;
import java.util.regex.Matcher;
import java.util.regex.Pattern;

/** The example in README.md, row by row: each answers as it says there, and no row is left out. */
public final class ReadmeTest {
    private static final Pattern ANSWERED = Pattern.compile("(x\\.\\w+\\(.*\\)); +// (\\d+|true|[A-Z]\\w+|kept)\\b.*");
    private static final Pattern TOLD = Pattern.compile("tell\\(x, \"(.*)\"\\);");

    private final CheekTown x = new CheekTown();

    public static void main(String[] args) throws IOException {
        ReadmeTest test = new ReadmeTest();
        boolean begun = false;
        List<String> left = new ArrayList<>();
        for (String row : Files.readAllLines(Path.of("README.md"))) {
            begun |= row.equals("CheekTown x = new CheekTown();");
            Matcher told = TOLD.matcher(row);
            Matcher answered = ANSWERED.matcher(row);
            if (begun && told.matches()) {
                Checks.feed(test.x, told.group(1));
            } else if (begun && answered.matches()) {
                Checks.due("'" + row + "'", test.answer(answered.group(1)).equals(answered.group(2)), true);
            } else if (begun && row.startsWith("x.")) {
                left.add(row);
            }
        }
        Checks.due("begun", begun, true);
        Checks.due("rows left out: " + left, left.size(), 0);
        Checks.finish();
    }

    private String answer(String call) {
        try {
            return String.valueOf(number(call));
        } catch (RuntimeException e) {
            return e.getClass().getSimpleName();
        }
    }

    private Object number(String call) {
        switch (call) {
            case "x.town()": return x.town();
            case "x.law()": return x.law();
            case "x.fault()": return x.fault();
            case "x.expected(0, 16)": return x.expected(0, 16);
            case "x.best(0)": return x.best(0);
            case "x.odds(0, 18)": return x.odds(0, 18);
            case "x.will(0, 1)": return x.will(0, 1);
            case "x.will(1, 0)": return x.will(1, 0);
            case "x.table(7, -1)": return x.table(7, -1);
            case "x.told(8, 1)": return x.told(8, 1);
            case "x.spared(2, 3)": return x.spared(2, 3);
            case "x.meet(0, 1)": return x.meet(0, 1);
            case "x.log(0, 5)": return x.log(0, 5);
            case "x.rounds(2)": return x.rounds(2);
            case "x.person(1, 1)": return x.person(1, 1);
            case "x.count(0)": return x.count(0);
            case "x.count(6)": return x.count(6);
            case "x.count(7)": return x.count(7);
            case "x.count(11)": return x.count(11);
            case "x.undo()": return x.undo();
            case "x.back()": return x.back();
            case "x.image()":
                x.image();
                return "kept";
            default: return "not told: " + call;
        }
    }
}
