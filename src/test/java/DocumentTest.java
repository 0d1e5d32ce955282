import java.io.IOException;
import java.io.UncheckedIOException;
import java.nio.file.DirectoryStream;
import java.nio.file.Files;
import java.nio.file.Path;
import java.util.regex.Matcher;
import java.util.regex.Pattern;

/**
 * Those sentences of the document that name no bound, in the document's order; and that no sentence
 * from 'Terms' to 'Not promised' is without a test that quotes it.
 */
public final class DocumentTest {
    private static final int NONE = Checks.NONE;

    public static void main(String[] args) {
        offIsOnNone();
        carvedIsAnother();
        aDayPasses();
        lawsHaveSums();
        bothSides();
        numbersNotTold();
        stoodIsCounted();
        keeperCleans();
        turnsThatPut();
        turnsThatChange();
        turnsThatTakeOff();
        theConstant();
        playedToItsEnd();
        ofHeadAndName();
        ofAHead();
        aboutCounts();
        everySentenceIsQuoted();
        Checks.end();
    }

    private static void due(String call, int got, int want) {
        Checks.due(call, got, want);
    }

    private static void due(String call, boolean got, boolean want) {
        Checks.due(call, got, want);
    }

    private static void offIsOnNone() {
        Checks.says("OFF: the HEAD of a PLINTH is on none.");
        StatuesWhoOwe x = Checks.square(2, 2);
        x.put(0, 0);
        x.put(1, 1);
        x.carve(0, 1);
        x.pass(3);
        due("off(0)", x.off(0), 0);
        due("its place", x.headOf(0, 0), NONE);
        due("the plinth's head", x.of(0, 0), NONE);
        due("the other's place", x.headOf(1, 0), 1);
        due("its debt stays", x.headOf(0, 1), 3);
        due("the name stays", x.of(0, 1), 1);
        due("what was stood stays", x.stood(0, 1), 3);
        due("it can be put again", x.put(0, 0), true);
    }

    private static void carvedIsAnother() {
        Checks.says("CARVED: the NAME of a PLINTH is another one.");
        StatuesWhoOwe x = Checks.square(2, 2);
        x.put(1, 0);
        due("carve(0, 0)", x.carve(0, 0), true);
        due("carve(0, 7)", x.carve(0, 7), true);
        due("the name", x.of(0, 1), 7);
        due("the other's name", x.of(1, 1), NONE);
        due("the head stays", x.of(0, 0), 1);
        due("two plinths of one name", x.carve(1, 7), true);
        due("each change is a step", x.about(6), 4);
        due("taken back", x.undo(), 3);
        due("the other's name", x.of(1, 1), NONE);
        due("the name", x.of(0, 1), 7);
    }

    private static void aDayPasses() {
        Checks.says("with a HEAD: it has stood a DAY more under that NAME (or under none), PURSE is more by pays, "
                + "then its DEBT by due; without: PURSE is more by price.");
        StatuesWhoOwe x = Checks.square(3, 2);
        x.put(0, 0);
        x.put(1, 2);
        x.carve(2, 5);
        Checks.rule(x, "due owes + 1; pays owes * 10 + head; birds 99; price 100 + plinth;");
        due("pass(1)", x.pass(1), 1);
        due("stood", x.stood(0, NONE), 1);
        due("stood", x.stood(1, 5), 1);
        due("purse: pays looks at what was owed ahead of due", x.about(3), 1 + 101);
        due("debt", x.headOf(0, 1), 1);
        due("debt", x.headOf(1, 1), 1);
        due("pass(2)", x.pass(2), 3);
        due("purse", x.about(3), 102 + (10 + 11 + 101) + (30 + 31 + 101));
        due("debt", x.headOf(0, 1), 7);
        due("stood", x.stood(1, 5), 3);
        due("not under the other name", x.stood(1, NONE), 0);
    }

    private static void lawsHaveSums() {
        Checks.says("{CLAUSE}, 24 at most: due SUM ; or pays SUM ; or birds SUM ; or price SUM ; or falls EITHER ;");
        StatuesWhoOwe x = Checks.square(2, 1);
        x.put(0, 1);
        Checks.rule(x, "falls 1 = 1 or 1 = 2; price 5 + 6; birds 4 - 1; pays 3 * 7; due 9 / 2;");
        due("due", x.of(1, 2), 4);
        due("pays", x.of(1, 3), 21);
        due("birds", x.of(1, 4), 3);
        due("price", x.of(0, 5), 11);
        due("falls", x.of(1, 6), 1);
        for (String law : new String[] {"due", "pays", "birds", "price"}) {
            Checks.faulty(law + " 1 < 2;", 1, law.length() + 3);
            Checks.faulty(law + " not 1;", 1, law.length() + 1);
            Checks.faulty(law + ";", 1, law.length());
            Checks.faulty(law + " 1", 1, law.length() + 2);
        }
        Checks.faulty("falls 1;", 1, 7);
        Checks.faulty("falls (1 < 2);", 1, 9);
        Checks.faulty("falls 1 < 2 < 3;", 1, 12);
    }

    private static void bothSides() {
        Checks.says("or and and look at both sides always.");
        falls("1 = 1 or 1 / 0 = 1", 1);
        falls("1 / 0 = 1 or 1 = 1", 1);
        falls("1 = 2 and 1 / 0 = 0", 0);
        falls("1 / 0 = 0 and 1 = 1", 1);
        falls("1 = 1 and 1 / 0 = 1", 0);
        falls("1 / 0 = 1 and 1 = 1", 0);
        falls("1 = 2 or 1 / 0 = 0", 1);
        falls("1 = 2 or 1 / 0 = 1", 0);
        // What is wrong on the other side is a fault, whatever this side says.
        Checks.faulty("falls 1 = 1 or close = 1;", 5, 15);
        Checks.faulty("falls 1 = 2 and 10000 = 1;", 2, 16);
    }

    private static void falls(String either, int want) {
        StatuesWhoOwe x = Checks.square(1, 1);
        x.put(0, 0);
        Checks.rule(x, "falls " + either + ";");
        due("falls " + either, x.of(0, 6), want);
    }

    private static void numbersNotTold() {
        Checks.says("2 a NUMBER that isn't one of those told");
        Checks.faulty("put 12 on 0;", 2, 4);
        Checks.faulty("put 0 on 8;", 2, 9);
        Checks.faulty("off 8;", 2, 4);
        Checks.faulty("change 8 with 0;", 2, 7);
        Checks.faulty("change 0 with 8;", 2, 14);
        Checks.faulty("pass 100;", 2, 5);
        Checks.faulty("price 10000;", 2, 6);
        // Heads and plinths of the numbers need not be there when the text is read.
        Checks.fine("put 11 on 7; off 7; change 7 with 7; pass 0; pass 99; price 9999;");
    }

    private static void stoodIsCounted() {
        Checks.says("STOOD: how many DAYS a HEAD has stood under a NAME;");
        StatuesWhoOwe x = Checks.square(2, 2);
        x.put(0, 0);
        x.carve(0, 4);
        x.pass(2);
        x.change(0, 1);
        x.pass(5);
        x.carve(1, 4);
        x.pass(1);
        due("under the name on two plinths", x.stood(0, 4), 3);
        due("under none", x.stood(0, NONE), 5);
        due("never", x.stood(0, 0), 0);
        x.off(1);
        x.pass(9);
        due("on none it doesn't stand", x.stood(0, 4), 3);
        due("nor under none", x.stood(0, NONE), 5);
        due("the other one", x.stood(1, 4), 0);
    }

    private static void keeperCleans() {
        Checks.says("a keeper cleans one PLINTH each DAY: DIRT (0 at first) of each PLINTH with a HEAD is more by birds "
                + "(as it is now), then that of the cleaned one is 0;");
        StatuesWhoOwe x = Checks.square(3, 3);
        x.put(1, 0);
        x.put(2, 2);
        Checks.rule(x, "birds fame * 3 + day; price 500; due 0;");
        // 3 at plinth 0, 6 at plinth 2: cleaned 2, 0, 2 there lie 3, then 6, then 3.
        due("together", x.rounds(3, NONE), 3 + 6 + 3);
        due("day 0", x.rounds(3, 0), 2);
        due("day 1", x.rounds(3, 1), 0);
        due("day 2", x.rounds(3, 2), 2);
        due("one day: cleaned behind the birds", x.rounds(1, NONE), 3);
        due("no step, no day", x.about(6) * 100 + x.about(2), 200);
        x.pass(1);
        due("a day on", x.rounds(1, NONE), 4);
    }

    private static void turnsThatPut() {
        Checks.says("Each turn: a draw by 3; then two draws: by HEADS and by PLINTHS, if it was 0: the HEAD is PUT on the PLINTH;");
        // X is 18 (0 by 3), 3545 (1 by 4), 22958 (2 by 3).
        StatuesWhoOwe x = Checks.square(3, 4);
        due("revolution(1, 1)", x.revolution(1, 1), 1);
        due("head 1", x.headOf(1, 0), 2);
        due("plinth 0", x.of(0, 0), NONE);
        due("plinth 1", x.of(1, 0), NONE);
    }

    private static void turnsThatChange() {
        Checks.says("by PLINTHS and by PLINTHS: these two are CHANGED, if it was 1;");
        // X is 31 (1 by 3), 6054 (0 by 3), 26251 (1 by 3).
        StatuesWhoOwe x = Checks.square(3, 4);
        x.put(3, 0);
        x.put(2, 1);
        x.put(0, 2);
        due("revolution(2, 1)", x.revolution(2, 1), 1);
        due("plinth 0", x.of(0, 0), 2);
        due("plinth 1", x.of(1, 0), 3);
        due("plinth 2", x.of(2, 0), 0);
    }

    private static void turnsThatTakeOff() {
        Checks.says("the first one's HEAD is OFF, if it was 2.");
        // X is 5 (2 by 3), 1036 (1 by 3), 19665 (0 by 3); then 7982 (2 by 3), 7588 (1 by 3).
        StatuesWhoOwe x = Checks.square(3, 4);
        x.put(3, 0);
        x.put(2, 1);
        x.put(0, 2);
        due("revolution(0, 1)", x.revolution(0, 1), 1);
        due("plinth 0", x.of(0, 0), 3);
        due("plinth 1", x.of(1, 0), NONE);
        due("plinth 2", x.of(2, 0), 0);
        x.undo();
        due("both plinths are drawn, so the next turn takes off too", x.revolution(0, 2), 1);
        due("plinth 0", x.of(0, 0), 3);
        due("plinth 1", x.of(1, 0), NONE);
        due("plinth 2", x.of(2, 0), 0);
    }

    private static void theConstant() {
        Checks.says("The constants: `NONE = -1`: None.");
        due("NONE", StatuesWhoOwe.NONE, -1);
    }

    private static void playedToItsEnd() {
        Checks.says("PLAYED by a TEXT: NONE: all is done; else the number of the CLAUSE that can't be. -2 for others.");
        StatuesWhoOwe x = Checks.square(2, 1);
        due("text()", Checks.read(x, "due 3; put 0 on 1; pass 2; change 0 with 1; off 0; off 0; pass 9;"), 0);
        due("played(0)", x.played(0), 5);
        due("what was done stays", x.about(6), 4);
        due("the days", x.about(2), 2);
        due("it doesn't rule", x.headOf(0, 1), 2);
        due("text()", Checks.read(x, "put 0 on 0;"), 1);
        due("played(1)", x.played(1), NONE);
        due("played(2)", x.played(2), -2);
        due("played(NONE)", x.played(NONE), -2);
    }

    private static void ofHeadAndName() {
        Checks.says("Of a PLINTH: 0 its HEAD (NONE), 1 its NAME (NONE), 2 due, 3 pays, 4 birds of its HEAD (0 without one)");
        StatuesWhoOwe x = Checks.square(2, 3);
        x.put(2, 1);
        x.carve(0, 11);
        Checks.rule(x, "due 2; pays 3; birds 4; price 5;");
        int[][] want = {{NONE, 11, 0, 0, 0, 5, 0}, {2, NONE, 2, 3, 4, 0, 0}};
        for (int plinth = 0; plinth < 2; plinth++) {
            for (int what = 0; what < 7; what++) {
                due("of(" + plinth + ", " + what + ")", x.of(plinth, what), want[plinth][what]);
            }
        }
    }

    private static void ofAHead() {
        Checks.says("Of a HEAD: 0 its PLINTH (NONE), 1 DEBT, 2 FAME, 3 CHIN. -2 for others.");
        StatuesWhoOwe x = new StatuesWhoOwe();
        x.plinth(1, 2, 3, 4);
        x.head(5, 3);
        x.head(6, 2);
        x.put(1, 0);
        x.pass(4);
        int[][] want = {{NONE, 0, 5, 3, -2}, {0, 4, 6, 2, -2}, {-2, -2, -2, -2, -2}};
        for (int head = 0; head < 3; head++) {
            for (int what = 0; what < 5; what++) {
                due("headOf(" + head + ", " + what + ")", x.headOf(head, what), want[head][what]);
            }
        }
    }

    private static void aboutCounts() {
        Checks.says("0 PLINTHS, 1 HEADS, 2 DAY, 3 PURSE, 4 TEXTS, 5 THE TEXT (NONE), 6 STEPS that can be taken back");
        StatuesWhoOwe x = Checks.square(3, 2);
        due("no text rules", x.about(5), NONE);
        Checks.rule(x, "due 1;");
        Checks.rule(x, "pays 9;");
        due("a third", Checks.read(x, "pass 1;"), 2);
        x.put(0, 0);
        x.pass(5);
        x.pass(1);
        int[] want = {3, 2, 6, 54, 3, 1, 3};
        for (int what = 0; what < want.length; what++) {
            due("about(" + what + ")", x.about(what), want[what]);
        }
        x.by(NONE);
        due("no text rules", x.about(5), NONE);
    }

    /** What is left of the document when all that is quoted is taken out has no word in it. */
    private static void everySentenceIsQuoted() {
        String document = Checks.document();
        int from = document.indexOf("## Terms");
        int to = document.indexOf("## Not promised");
        StringBuilder left = new StringBuilder(document.substring(from, to));
        Matcher quotes = Pattern.compile("says\\(((?:\"(?:[^\"\\\\]|\\\\.)*\"[\\s+]*)+)\\)").matcher(sources());
        while (quotes.find()) {
            strike(left, document.substring(from, to), joined(quotes.group(1)));
        }
        // Headings, the form of each call, and the signs between the parts say nothing by themselves.
        String bare = left.toString().replaceAll("(?m)^#.*$", "").replaceAll("(?m)^`[^`]*`:", "")
                .replaceAll("```text|==== I+V?\\.", "");
        Matcher words = Pattern.compile("[^\u0000]*?\\w[^\u0000]*").matcher(bare);
        while (words.find()) {
            due("no test quotes '" + words.group().trim() + "'", 1, 0);
        }
    }

    private static String joined(String quoted) {
        StringBuilder all = new StringBuilder();
        Matcher parts = Pattern.compile("\"((?:[^\"\\\\]|\\\\.)*)\"").matcher(quoted);
        while (parts.find()) {
            all.append(parts.group(1).replace("\\\"", "\""));
        }
        return all.toString();
    }

    private static void strike(StringBuilder left, String whole, String quoted) {
        for (int at = whole.indexOf(quoted); at >= 0; at = whole.indexOf(quoted, at + 1)) {
            left.replace(at, at + quoted.length(), "\u0000".repeat(quoted.length()));
        }
    }

    private static String sources() {
        StringBuilder all = new StringBuilder();
        try (DirectoryStream<Path> tests = Files.newDirectoryStream(Path.of("src/test/java"), "*.java")) {
            for (Path test : tests) {
                all.append(Files.readString(test));
            }
        } catch (IOException e) {
            throw new UncheckedIOException(e);
        }
        return all.toString();
    }
}
