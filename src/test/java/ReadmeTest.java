import java.lang.reflect.Method;
import java.lang.reflect.Modifier;
import java.nio.file.Files;
import java.nio.file.Path;
import java.util.regex.Matcher;
import java.util.regex.Pattern;

/** What README.md shows is so: its two programs, its text, and a row for every call. */
public final class ReadmeTest {
    private static String readme = "";

    public static void main(String[] args) throws Exception {
        readme = Files.readString(Path.of("README.md"));
        StatuesWhoOwe square = theSquare();
        theLaw(square);
        theText();
        everyCallHasARow();
        Checks.end();
    }

    /** The line stands in README.md, so that the page and this test can't part. */
    private static void shown(String line) {
        Checks.due("README.md shows " + line, readme.contains(line), true);
    }

    private static StatuesWhoOwe theSquare() {
        StatuesWhoOwe square = new StatuesWhoOwe();
        shown("square.plinth(0, 0, 2, 5);");
        Checks.due("plinth", square.plinth(0, 0, 2, 5), 0);
        shown("square.head(7, 1);");
        Checks.due("head", square.head(7, 1), 0);
        Checks.due("put", square.put(0, 0), true);
        Checks.due("carve", square.carve(0, 0), true);
        shown("// two days, one step");
        Checks.due("pass", square.pass(2), 2);
        shown("// what it owes: 2");
        Checks.due("headOf", square.headOf(0, 1), 2);
        shown("// the two days are taken back");
        Checks.due("undo", square.undo(), 2);
        Checks.due("day", square.about(2), 0);
        return square;
    }

    private static void theLaw(StatuesWhoOwe square) {
        shown("square.feed(0x64756520, 0x353b2020, 0x20202020, 0x20202020, 0x20202020); // \"due 5;\" and blanks");
        Checks.due("feed", square.feed(0x64756520, 0x353b2020, 0x20202020, 0x20202020, 0x20202020), 20);
        Checks.due("text", square.text(), 0);
        Checks.due("by", square.by(0), true);
        shown("// due: 5");
        Checks.due("of", square.of(0, 2), 5);
    }

    private static void theText() {
        int from = readme.indexOf("```text\n") + 8;
        String text = readme.substring(from, readme.indexOf("```", from));
        StatuesWhoOwe x = Checks.square(2, 1);
        Checks.rule(x, text);
        Checks.due("played", x.played(0), StatuesWhoOwe.NONE);
        Checks.due("day", x.about(2), 7);
        for (String kind : new String[] {"due", "pays", "birds", "price", "falls", "put", "change", "off", "pass"}) {
            Checks.due(kind + " is shown", Pattern.compile("\\b" + kind + "\\b[^;]*;").matcher(text).find(), true);
        }
    }

    private static void everyCallHasARow() {
        for (Method method : StatuesWhoOwe.class.getDeclaredMethods()) {
            if (Modifier.isPublic(method.getModifiers())) {
                Matcher row = Pattern.compile("(?m)^\\| [^|]*`" + method.getName() + "\\(([^)]*)\\)`").matcher(readme);
                boolean found = row.find();
                Checks.due("a row for " + method.getName(), found, true);
                if (found) {
                    int parameters = row.group(1).isEmpty() ? 0 : row.group(1).split(",").length;
                    Checks.due("parameters of " + method.getName(), parameters, method.getParameterCount());
                }
            }
        }
    }
}
