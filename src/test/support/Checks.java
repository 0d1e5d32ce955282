import java.nio.file.Files;
import java.nio.file.Path;
import java.util.ArrayList;
import java.util.List;
import java.util.function.Supplier;
import java.util.function.ToIntFunction;

/**
 * What the tests of single sentences share: the sentence that is looked at, the answers that were not
 * due, squares to begin with, and all that can be asked of an object.
 */
final class Checks {
    static final int NONE = -1;
    static final int LOW = Integer.MIN_VALUE;
    static final int HIGH = Integer.MAX_VALUE;
    private static String document;
    private static String sentence = "";
    private static int wrong = 0;
    private static int sentences = 0;

    private Checks() { }

    /** Every answer behind this is due by that sentence, which must stand in the document word by word. */
    static void says(String quoted) {
        sentence = quoted;
        sentences++;
        if (!document().contains(quoted)) {
            wrong++;
            System.out.println("the document doesn't say: " + quoted);
        }
    }

    static String document() {
        if (document == null) {
            try {
                document = Files.readString(Path.of("../shared/DOC.md"));
            } catch (java.io.IOException e) {
                throw new java.io.UncheckedIOException(e);
            }
        }
        return document;
    }

    static void due(String call, int got, int want) {
        if (got != want) {
            wrong++;
            System.out.println("'" + sentence + "': " + call + " answered " + got + ", due is " + want);
        }
    }

    static void due(String call, boolean got, boolean want) {
        due(call, bit(got), bit(want));
    }

    static int bit(boolean is) {
        return is ? 1 : 0;
    }

    static void end() {
        String fine = sentences == 0 ? "all answers are as due" : sentences + " sentences hold";
        System.out.println(wrong == 0 ? fine : wrong + " answers are not as due");
        if (wrong != 0) {
            System.exit(1);
        }
    }

    /** Plinths at (0, 0), (10, 0), .. of shade 0 .. and view 9 .. ; heads of fame 0 .. and chin 0 .. */
    static StatuesWhoOwe square(int plinths, int heads) {
        StatuesWhoOwe x = new StatuesWhoOwe();
        for (int i = 0; i < plinths; i++) {
            due("plinth", x.plinth(10 * i, 0, i, 9 - i), i);
        }
        for (int i = 0; i < heads; i++) {
            due("head", x.head(i % 10, i % 4), i);
        }
        return x;
    }

    /** A square with something of everything: places, names, debts, a purse, days, texts, seen and a tape. */
    static StatuesWhoOwe busy() {
        StatuesWhoOwe x = square(3, 3);
        rule(x, "due 2; pays 5; birds fame + 1; price 1; falls owes > 900;");
        x.put(1, 0);
        x.image();
        x.put(2, 1);
        x.carve(0, 1);
        x.carve(2, 11);
        x.pass(2);
        x.seen(3, 2, 1);
        due("a fault", read(x, "due ;"), NONE);
        feed(x, "pass 1; off 1;");
        return x;
    }

    static void feed(StatuesWhoOwe x, String text) {
        int length = x.about(8) + text.length();
        for (int at = 0; at < text.length(); at += 20) {
            int[] five = new int[5];
            for (int i = 0; i < 20; i++) {
                five[i / 4] = five[i / 4] << 8 | (at + i < text.length() ? text.charAt(at + i) : ' ');
            }
            x.feed(five[0], five[1], five[2], five[3], five[4]);
        }
        due("end of " + text, x.end(length), length);
    }

    static int read(StatuesWhoOwe x, String text) {
        feed(x, text);
        return x.text();
    }

    static void rule(StatuesWhoOwe x, String text) {
        int number = read(x, text);
        due("text() of " + text, number >= 0, true);
        due("by", x.by(number), true);
    }

    static void faulty(String text, int fault, int place) {
        StatuesWhoOwe x = new StatuesWhoOwe();
        due("text() of " + text, read(x, text), NONE);
        due("fault(0) of " + text, x.fault(0), fault);
        due("fault(1) of " + text, x.fault(1), place);
    }

    static void fine(String text) {
        StatuesWhoOwe x = new StatuesWhoOwe();
        due("text() of " + text, read(x, text), 0);
        due("fault(0) of " + text, x.fault(0), 0);
        due("fault(1) of " + text, x.fault(1), NONE);
    }

    /** The call answers so, and all is behind it as it is without it. */
    static void refused(String what, Supplier<StatuesWhoOwe> maker, ToIntFunction<StatuesWhoOwe> call, int answer) {
        StatuesWhoOwe called = maker.get();
        StatuesWhoOwe spared = maker.get();
        due(what, call.applyAsInt(called), answer);
        due(what + " leaves all as it was", everything(called).equals(everything(spared)), true);
    }

    /** All that can be asked of an object, its steps, its tape and its image among it; it is spoilt by that. */
    static List<Integer> everything(StatuesWhoOwe x) {
        List<Integer> all = new ArrayList<>();
        all.add(x.fault(0));
        all.add(x.fault(1));
        all.add(x.best(NONE));
        all.add(x.fewest());
        for (int night = 0; night <= 8; night++) {
            for (int plinth = 0; plinth < x.about(0); plinth++) {
                all.add(x.who(night, plinth));
            }
        }
        look(x, all);
        for (int head = 0; head < x.about(1); head++) {
            for (int name = NONE; name < 12; name++) {
                all.add(x.stood(head, name));
            }
        }
        for (int left = x.about(6); left >= 0; left = x.undo()) {
            look(x, all);
        }
        all.add(x.text());
        all.add(x.fault(0));
        all.add(x.fault(1));
        all.add(x.back());
        look(x, all);
        return all;
    }

    private static void look(StatuesWhoOwe x, List<Integer> all) {
        for (int what = 0; what < 10; what++) {
            all.add(x.about(what));
        }
        for (int plinth = 0; plinth < x.about(0); plinth++) {
            all.add(x.about(10 + plinth));
            all.add(x.about(20 + plinth));
            all.add(x.of(plinth, 0));
            all.add(x.of(plinth, 1));
        }
        for (int head = 0; head < x.about(1); head++) {
            all.add(x.headOf(head, 1));
        }
    }
}
