import java.util.ArrayList;
import java.util.Arrays;
import java.util.HashMap;
import java.util.List;
import java.util.Map;
import java.util.Random;

/**
 * Plays long random runs, with wrong arguments among the right ones, on the class and on a slow, plain
 * model of the document that is written in other ways, and prints where the two answer unlike.
 */
public final class AgainstPlainModel {
    private static final int RUNS = 400;
    private static final int CALLS = 512;
    private static final int[] ODD = {-1, -2, 0, 1, 8, 9, 11, 12, 13, 99, 100, 999, 1000, 9999, 10000,
        Integer.MAX_VALUE, Integer.MIN_VALUE};

    private final Random random;
    private final StatuesWhoOwe real = new StatuesWhoOwe();
    private final Model model = new Model();
    private final List<String> log = new ArrayList<>();
    private final int mostPlinths;
    private boolean unlike;

    private AgainstPlainModel(long seed) {
        // Seeds that lie side by side draw nearly the same first numbers, so they are spread.
        random = new Random(seed * 0x9E3779B97F4A7C15L);
        mostPlinths = 1 + random.nextInt(8);
    }

    public static void main(String[] args) {
        int wrong = 0;
        for (int seed = 0; seed < RUNS && wrong < 5; seed++) {
            AgainstPlainModel run = new AgainstPlainModel(seed);
            if (!run.play()) {
                wrong++;
                System.out.println("seed " + seed + ":");
                int from = Math.max(0, run.log.size() - 12);
                for (String line : run.log.subList(from, run.log.size())) {
                    System.out.println("  " + line);
                }
            }
        }
        System.out.println(wrong == 0 ? "the class and the model answer alike" : "they answer unlike");
        if (wrong != 0) {
            System.exit(1);
        }
    }

    private boolean play() {
        int calls = random.nextBoolean() ? fillTheSquare() : 0;
        while (calls < CALLS && !unlike) {
            calls += call();
        }
        return !unlike;
    }

    /** A square on which best, who, tours and rounds have much to choose from. */
    private int fillTheSquare() {
        int wide = random.nextBoolean() ? 100 : 15;
        for (int i = 0; i < mostPlinths; i++) {
            int x = random.nextInt(wide);
            int y = random.nextInt(wide);
            int shade = random.nextInt(10);
            int view = random.nextInt(wide == 15 ? 3 : 10);
            same("plinth(" + x + ", " + y + ", " + shade + ", " + view + ")",
                    real.plinth(x, y, shade, view), model.plinth(x, y, shade, view));
        }
        int heads = random.nextInt(13);
        for (int i = 0; i < heads; i++) {
            int fame = random.nextInt(10);
            int chin = random.nextInt(4);
            same("head(" + fame + ", " + chin + ")", real.head(fame, chin), model.head(fame, chin));
            int plinth = random.nextInt(mostPlinths);
            same("put(" + i + ", " + plinth + ")", bit(real.put(i, plinth)), bit(model.put(i, plinth)));
            int name = random.nextInt(12);
            same("carve(" + plinth + ", " + name + ")", bit(real.carve(plinth, name)), bit(model.carve(plinth, name)));
        }
        int calls = mostPlinths + 3 * heads + tell(new Teller(random).laws());
        same("image()", real.image(), model.image());
        for (int i = 0; i < 5; i++) {
            calls += lookHard();
        }
        return calls;
    }

    private int lookHard() {
        int calls = mostPlinths + 1;
        for (int plinth = -1; plinth < mostPlinths; plinth++) {
            same("best(" + plinth + ")", real.best(plinth), model.best(plinth));
        }
        int from = random.nextInt(mostPlinths);
        int miles = random.nextInt(random.nextBoolean() ? 400 : 60);
        for (int what = 0; what < 6; what++) {
            same("tour(" + from + ", " + miles + ", " + what + ")",
                    real.tour(from, miles, what), model.tour(from, miles, what));
        }
        int n = 1 + random.nextInt(5);
        for (int day = -1; day < n; day++) {
            same("rounds(" + n + ", " + day + ")", real.rounds(n, day), model.rounds(n, day));
        }
        int seed = random.nextInt(10000);
        int turns = 1 + random.nextInt(9);
        same("revolution(" + seed + ", " + turns + ")", real.revolution(seed, turns), model.revolution(seed, turns));
        return calls + 6 + n + 2 + lookAtNights();
    }

    /** What is seen is so in one history at least. */
    private int lookAtNights() {
        same("forget()", real.forget(), model.forget());
        int[] stands = Arrays.copyOf(model.state.at, mostPlinths);
        for (int night = 1; night <= 8; night++) {
            for (int i = random.nextInt(3); i > 0; i--) {
                int one = random.nextInt(mostPlinths);
                int other = random.nextInt(mostPlinths);
                int head = stands[one];
                stands[one] = stands[other];
                stands[other] = head;
            }
            for (int i = random.nextInt(3); i > 0; i--) {
                int plinth = random.nextInt(mostPlinths);
                int chin = stands[plinth] < 0 ? -1 : model.heads.get(stands[plinth])[1];
                same("seen(" + night + ", " + plinth + ", " + chin + ")",
                        real.seen(night, plinth, chin), model.seen(night, plinth, chin));
            }
        }
        same("fewest()", real.fewest(), model.fewest());
        for (int i = 0; i < 6; i++) {
            int night = random.nextInt(9);
            int plinth = random.nextInt(mostPlinths);
            same("who(" + night + ", " + plinth + ")", real.who(night, plinth), model.who(night, plinth));
        }
        return 16;
    }

    private void same(String call, int got, int want) {
        log.add(call + " answered " + got + (got == want ? "" : ", the model " + want));
        if (got != want) {
            unlike = true;
        }
    }

    private int upTo(int below) {
        return random.nextInt(12) == 0 ? ODD[random.nextInt(ODD.length)] : random.nextInt(Math.max(1, below));
    }

    private int aPlinth() {
        return upTo(model.plinths.size() + (random.nextInt(10) == 0 ? 1 : 0));
    }

    private int aHead() {
        return upTo(model.heads.size() + (random.nextInt(10) == 0 ? 1 : 0));
    }

    private int aName() {
        return random.nextInt(4) == 0 ? -1 : upTo(12);
    }

    private int call() {
        int kind = random.nextInt(100);
        if (random.nextInt(80) == 0 && model.plinths.size() == mostPlinths) {
            return lookHard();
        }
        if (kind < 50) {
            return act(kind);
        }
        return kind < 65 ? tellText() : look(kind);
    }

    private int act(int kind) {
        if (kind < 4) {
            if (model.plinths.size() < mostPlinths || random.nextInt(20) == 0) {
                boolean near = random.nextBoolean();
                int x = near ? upTo(12) : upTo(100);
                int y = near ? upTo(12) : upTo(100);
                int shade = upTo(10);
                int view = random.nextInt(3) == 0 ? random.nextInt(3) : upTo(10);
                same("plinth(" + x + ", " + y + ", " + shade + ", " + view + ")",
                        real.plinth(x, y, shade, view), model.plinth(x, y, shade, view));
            }
        } else if (kind < 9) {
            int fame = upTo(10);
            int chin = upTo(4);
            same("head(" + fame + ", " + chin + ")", real.head(fame, chin), model.head(fame, chin));
        } else if (kind < 21) {
            int head = aHead();
            int plinth = aPlinth();
            same("put(" + head + ", " + plinth + ")", bit(real.put(head, plinth)), bit(model.put(head, plinth)));
        } else if (kind < 24) {
            int plinth = aPlinth();
            same("off(" + plinth + ")", real.off(plinth), model.off(plinth));
        } else if (kind < 29) {
            int one = aPlinth();
            int other = aPlinth();
            same("change(" + one + ", " + other + ")", bit(real.change(one, other)), bit(model.change(one, other)));
        } else if (kind < 34) {
            int plinth = aPlinth();
            int name = aName();
            same("carve(" + plinth + ", " + name + ")", bit(real.carve(plinth, name)), bit(model.carve(plinth, name)));
        } else if (kind < 37) {
            int head = aHead();
            int n = upTo(random.nextBoolean() ? 8 : 300);
            same("pay(" + head + ", " + n + ")", real.pay(head, n), model.pay(head, n));
        } else if (kind < 41) {
            int days = random.nextInt(3) == 0 ? upTo(101) : upTo(4);
            same("pass(" + days + ")", real.pass(days), model.pass(days));
        } else if (kind < 45) {
            same("undo()", real.undo(), model.undo());
        } else if (kind < 47) {
            int seed = random.nextInt(9) == 0 ? upTo(10001) : random.nextInt(10000);
            int n = upTo(100);
            same("revolution(" + seed + ", " + n + ")", real.revolution(seed, n), model.revolution(seed, n));
        } else if (kind < 48) {
            same("image()", real.image(), model.image());
        } else if (kind == 48 && random.nextInt(3) == 0) {
            same("back()", real.back(), model.back());
        }
        return 1;
    }

    private int tellText() {
        int kind = random.nextInt(8);
        if (kind == 0) {
            int text = upTo(5) - (random.nextInt(4) == 0 ? 1 : 0);
            same("by(" + text + ")", bit(real.by(text)), bit(model.by(text)));
            return 1;
        }
        if (kind == 1) {
            int text = upTo(4);
            same("played(" + text + ")", real.played(text), model.played(text));
            return 1;
        }
        if (kind > 3) {
            return 1;
        }
        return tell(new Teller(random).text());
    }

    private int tell(String told) {
        log.add("the text: " + told.replace('\n', '~'));
        int calls = 0;
        if (random.nextInt(4) != 0) {
            same("end(0)", real.end(0), model.end(0));
        }
        int length = model.tape.size() + told.length();
        for (int at = 0; at < told.length(); at += 20) {
            int[] five = new int[5];
            for (int i = 0; i < 20; i++) {
                int sign = at + i < told.length() ? told.charAt(at + i) : ' ';
                five[i / 4] = five[i / 4] << 8 | sign;
            }
            same("feed(..)", real.feed(five[0], five[1], five[2], five[3], five[4]), model.feed(five));
            calls++;
        }
        same("end(" + length + ")", real.end(length), model.end(length));
        same("text()", real.text(), model.text());
        same("fault(0)", real.fault(0), model.fault(0));
        same("fault(1)", real.fault(1), model.fault(1));
        int what = upTo(3);
        same("fault(" + what + ")", real.fault(what), model.fault(what));
        if (model.texts.size() > 0 && random.nextInt(2) == 0) {
            int text = model.texts.size() - 1;
            same("by(" + text + ")", bit(real.by(text)), bit(model.by(text)));
        }
        return calls + 5;
    }

    private int look(int kind) {
        if (kind < 75) {
            int plinth = aPlinth();
            int what = upTo(8);
            same("of(" + plinth + ", " + what + ")", real.of(plinth, what), model.of(plinth, what));
        } else if (kind < 78) {
            int head = aHead();
            int what = upTo(5);
            same("headOf(" + head + ", " + what + ")", real.headOf(head, what), model.headOf(head, what));
        } else if (kind < 81) {
            int plinth = random.nextInt(4) == 0 ? -1 : aPlinth();
            same("best(" + plinth + ")", real.best(plinth), model.best(plinth));
        } else if (kind < 86) {
            int night = random.nextInt(9) == 0 ? upTo(10) : 1 + random.nextInt(8);
            int plinth = aPlinth();
            int head = model.headAt(Math.floorMod(plinth, 8));
            int chin = random.nextInt(3) == 0 ? upTo(5) - 1 : head >= 0 ? model.heads.get(head)[1] : -1;
            same("seen(" + night + ", " + plinth + ", " + chin + ")",
                    real.seen(night, plinth, chin), model.seen(night, plinth, chin));
        } else if (kind == 86) {
            same("forget()", real.forget(), model.forget());
        } else if (kind == 87) {
            same("fewest()", real.fewest(), model.fewest());
        } else if (kind < 90) {
            int night = upTo(10);
            int plinth = aPlinth();
            same("who(" + night + ", " + plinth + ")", real.who(night, plinth), model.who(night, plinth));
        } else if (kind < 92) {
            int head = aHead();
            int name = aName();
            same("stood(" + head + ", " + name + ")", real.stood(head, name), model.stood(head, name));
        } else if (kind == 92) {
            int name = aName();
            same("longest(" + name + ")", real.longest(name), model.longest(name));
        } else if (kind == 93) {
            int from = aPlinth();
            int miles = random.nextBoolean() ? upTo(30) : upTo(400);
            int what = upTo(11);
            same("tour(" + from + ", " + miles + ", " + what + ")",
                    real.tour(from, miles, what), model.tour(from, miles, what));
        } else if (kind == 94) {
            int n = 1 + upTo(6) % 6;
            int day = upTo(7) - 1;
            same("rounds(" + n + ", " + day + ")", real.rounds(n, day), model.rounds(n, day));
        } else {
            int what = upTo(30);
            same("about(" + what + ")", real.about(what), model.about(what));
        }
        return 1;
    }

    private static int bit(boolean is) {
        return is ? 1 : 0;
    }

    /** Tells texts: most of them right, some with a token or a byte that is not. */
    private static final class Teller {
        private static final String[] TOKENS = {"due", "pays", "birds", "price", "falls", "put", "off", "change",
            "pass", "on", "with", "or", "and", "not", "plinth", "shade", "view", "day", "close", "head", "fame",
            "name", "right", "owes", "<=", ">=", "<", ">", "=", "#", "+", "-", "*", "/", "(", ")", ";", "0", "7", "8",
            "11", "12", "99", "100", "9999", "10000", "99999999999999", "007", "dues", "x", "Due", "?", "\t", "\u00e9"};
        private final Random random;
        private final StringBuilder out = new StringBuilder();

        Teller(Random random) {
            this.random = random;
        }

        String text() {
            int kind = random.nextInt(12);
            if (kind == 0) {
                many();
            } else if (kind == 1) {
                soup();
            } else {
                clauses();
            }
            if (random.nextInt(3) == 0) {
                spoil();
            }
            return out.length() > 300 ? out.substring(0, 300) : out.toString();
        }

        /** All five laws, of small numbers. */
        String laws() {
            String[] in = {"plinth", "shade", "view", "head", "fame", "name", "right", "owes"};
            for (int law = 0; law < 5; law++) {
                out.append(TOKENS[law]).append(' ');
                for (int i = 0; i < 3; i++) {
                    String[] names = law == 3 ? new String[] {"plinth", "shade", "view", "close"} : in;
                    out.append(1 + random.nextInt(9)).append(random.nextInt(9) == 0 ? '/' : '*');
                    out.append(names[random.nextInt(names.length)]).append(random.nextInt(3) == 0 ? '-' : '+');
                }
                out.append(random.nextInt(9)).append(law == 4 ? ">40;" : ";");
            }
            return out.toString();
        }

        private void many() {
            int clauses = 22 + random.nextInt(5);
            for (int i = 0; i < clauses; i++) {
                out.append(random.nextInt(9) == 0 ? "due 1;" : random.nextBoolean() ? "pass 1;" : "off 0;");
            }
        }

        private void soup() {
            int tokens = random.nextInt(9);
            for (int i = 0; i < tokens; i++) {
                add(TOKENS[random.nextInt(TOKENS.length)]);
            }
        }

        private void spoil() {
            int at = random.nextInt(out.length() + 1);
            int kind = random.nextInt(3);
            if (kind == 0) {
                out.insert(at, TOKENS[random.nextInt(TOKENS.length)]);
            } else if (kind == 1) {
                out.setLength(at);
            } else if (at < out.length()) {
                out.deleteCharAt(at);
            }
        }

        private void add(String token) {
            boolean joins = out.length() > 0 && Character.isLetterOrDigit(out.charAt(out.length() - 1))
                    && Character.isLetterOrDigit(token.charAt(0));
            if (joins || random.nextInt(6) == 0) {
                out.append(random.nextInt(5) == 0 ? '\n' : ' ');
            }
            out.append(token);
        }

        private void clauses() {
            boolean[] told = new boolean[5];
            int clauses = 1 + random.nextInt(6);
            for (int i = 0; i < clauses && out.length() < 220; i++) {
                int kind = random.nextInt(9);
                if (kind < 5 && told[kind] && random.nextInt(8) != 0) {
                    continue;
                }
                if (kind < 5) {
                    told[kind] = true;
                }
                clause(kind);
                add(";");
            }
        }

        private void clause(int kind) {
            add(TOKENS[kind]);
            switch (kind) {
                case 4 -> either();
                case 5 -> two(12, "on");
                case 6 -> add(Integer.toString(random.nextInt(8)));
                case 7 -> two(8, "with");
                case 8 -> add(Integer.toString(random.nextInt(random.nextInt(4) == 0 ? 101 : 4)));
                default -> sum(0, kind == 3);
            }
        }

        private void two(int below, String word) {
            add(Integer.toString(random.nextInt(below)));
            add(word);
            add(Integer.toString(random.nextInt(random.nextInt(9) == 0 ? 9 : 8)));
        }

        private void either() {
            int asks = 1 + random.nextInt(3);
            for (int i = 0; i < asks; i++) {
                if (i > 0) {
                    add(random.nextBoolean() ? "or" : "and");
                }
                int nots = random.nextInt(4) == 0 ? random.nextInt(10) : random.nextInt(2);
                for (int j = 0; j < nots; j++) {
                    add("not");
                }
                sum(1, false);
                add(TOKENS[24 + random.nextInt(6)]);
                sum(1, false);
            }
        }

        private void sum(int depth, boolean price) {
            int parts = 1 + random.nextInt(depth > 3 ? 1 : 3);
            for (int i = 0; i < parts; i++) {
                if (i > 0) {
                    add(TOKENS[30 + random.nextInt(4)]);
                }
                one(depth, price);
            }
        }

        private void one(int depth, boolean price) {
            int kind = random.nextInt(10);
            if (kind < 4 || depth > 10) {
                add(Integer.toString(random.nextInt(random.nextInt(3) == 0 ? 10000 : 12)));
            } else if (kind < 8) {
                boolean wrong = random.nextInt(60) == 0;
                int name = random.nextInt(price != wrong ? 5 : 9);
                add(TOKENS[price != wrong || name < 4 ? 14 + name : 15 + name]);
            } else if (kind < 9) {
                add("(");
                sum(depth + 1, price);
                add(")");
            } else {
                int times = random.nextInt(5) == 0 ? random.nextInt(10) : 1;
                for (int i = 0; i < times; i++) {
                    add("-");
                }
                one(depth + 1, price);
            }
        }
    }

    private record Token(String text, int place) {
        boolean isNumber() {
            return !text.isEmpty() && Character.isDigit(text.charAt(0));
        }

        boolean isAbove(int most) {
            return new java.math.BigInteger(text).compareTo(java.math.BigInteger.valueOf(most)) > 0;
        }

        int number() {
            return Integer.parseInt(text);
        }
    }

    private record Clause(String kind, List<Token> tokens, int one, int other) { }

    /** Looks for faults with a stack of what is open, instead of going down the grammar. */
    private static final class Checker {
        private static final List<String> LAWS = List.of("due", "pays", "birds", "price", "falls");
        private static final List<String> ALL = List.of("plinth", "shade", "view", "day");
        private static final List<String> OTHERS = List.of("head", "fame", "name", "right", "owes");
        private static final List<String> COMPARES = List.of("<", "<=", ">", ">=", "=", "#");
        private final List<Token> tokens;
        private final List<Clause> clauses = new ArrayList<>();
        private final List<String> told = new ArrayList<>();
        private int at;
        private int fault;
        private int place = -1;

        Checker(List<Integer> bytes) {
            tokens = tokensOf(bytes);
        }

        static List<Token> tokensOf(List<Integer> bytes) {
            StringBuilder all = new StringBuilder();
            for (int b : bytes) {
                all.append((char) b);
            }
            List<Token> found = new ArrayList<>();
            java.util.regex.Matcher m = java.util.regex.Pattern
                    .compile("[a-zA-Z]+|[0-9]+|<=|>=|[^ \n]", java.util.regex.Pattern.DOTALL).matcher(all);
            while (m.find()) {
                found.add(new Token(m.group(), m.start()));
            }
            found.add(new Token("", bytes.size()));
            return found;
        }

        boolean isFine() {
            while (!tokens.get(at).text.isEmpty()) {
                if (!clause()) {
                    return false;
                }
            }
            return true;
        }

        private boolean wrong(int which) {
            fault = which;
            place = tokens.get(at).place;
            return false;
        }

        private boolean clause() {
            String kind = tokens.get(at).text;
            boolean law = LAWS.contains(kind);
            if (!law && !List.of("put", "off", "change", "pass").contains(kind)) {
                return wrong(1);
            }
            if (law && told.contains(kind)) {
                return wrong(4);
            }
            if (clauses.size() == 24) {
                return wrong(6);
            }
            told.add(kind);
            int from = ++at;
            if (law) {
                if (!expression(kind)) {
                    return false;
                }
                clauses.add(new Clause(kind, tokens.subList(from, at), 0, 0));
                at++;
                return true;
            }
            String form = switch (kind) {
                case "put" -> "11 on 7 ;";
                case "off" -> "7 ;";
                case "change" -> "7 with 7 ;";
                default -> "99 ;";
            };
            int[] numbers = new int[3];
            int count = 0;
            for (String part : form.split(" ")) {
                Token token = tokens.get(at);
                if (Character.isDigit(part.charAt(0))) {
                    if (!token.isNumber()) {
                        return wrong(1);
                    }
                    if (token.isAbove(Integer.parseInt(part))) {
                        return wrong(2);
                    }
                    numbers[count++] = token.number();
                } else if (!token.text.equals(part)) {
                    return wrong(1);
                }
                at++;
            }
            clauses.add(new Clause(kind, List.of(), numbers[0], numbers[1]));
            return true;
        }

        private boolean expression(String law) {
            boolean asks = law.equals("falls");
            List<String> open = new ArrayList<>();
            boolean askStarts = asks;
            boolean compared = false;
            boolean operand = true;
            while (true) {
                Token token = tokens.get(at);
                String t = token.text;
                if (operand) {
                    boolean opens = t.equals("(") || t.equals("-") || t.equals("not") && askStarts;
                    if (opens) {
                        if (open.size() == 8) {
                            return wrong(3);
                        }
                        open.add(t);
                        askStarts = t.equals("not");
                        at++;
                        continue;
                    }
                    askStarts = false;
                    if (token.isNumber()) {
                        if (token.isAbove(9999)) {
                            return wrong(2);
                        }
                    } else if (ALL.contains(t) || OTHERS.contains(t) || t.equals("close")) {
                        boolean ofPrice = law.equals("price");
                        if (!ALL.contains(t) && t.equals("close") != ofPrice) {
                            return wrong(5);
                        }
                    } else {
                        return wrong(1);
                    }
                    close(open, "-");
                    operand = false;
                } else if (List.of("+", "-", "*", "/").contains(t)) {
                    operand = true;
                } else if (t.equals(")") && open.contains("(")) {
                    open.remove(open.size() - 1);
                    close(open, "-");
                } else if (asks && COMPARES.contains(t) && !open.contains("(") && !compared) {
                    compared = true;
                    operand = true;
                } else if ((t.equals("and") || t.equals("or")) && compared && !open.contains("(")) {
                    close(open, "not");
                    compared = false;
                    operand = true;
                    askStarts = true;
                } else if (t.equals(";") && !open.contains("(") && asks == compared) {
                    return true;
                } else {
                    return wrong(1);
                }
                at++;
            }
        }

        private static void close(List<String> open, String what) {
            while (!open.isEmpty() && open.get(open.size() - 1).equals(what)) {
                open.remove(open.size() - 1);
            }
        }
    }

    /** Reckons a law straight from its tokens. */
    private static final class Reckoner {
        private final List<Token> tokens;
        private final Map<String, Integer> values;
        private int at;

        Reckoner(List<Token> tokens, Map<String, Integer> values) {
            this.tokens = tokens;
            this.values = values;
        }

        private String peek() {
            return at < tokens.size() ? tokens.get(at).text : "";
        }

        private String take() {
            return tokens.get(at++).text;
        }

        private static int held(long value) {
            return (int) Math.max(-1000000, Math.min(1000000, value));
        }

        boolean either() {
            boolean is = both();
            while (peek().equals("or")) {
                take();
                is = both() || is;
            }
            return is;
        }

        private boolean both() {
            boolean is = ask();
            while (peek().equals("and")) {
                take();
                is = ask() && is;
            }
            return is;
        }

        private boolean ask() {
            if (peek().equals("not")) {
                take();
                return !ask();
            }
            int a = sum();
            String sign = take();
            int b = sum();
            return switch (sign) {
                case "<" -> a < b;
                case "<=" -> a <= b;
                case ">" -> a > b;
                case ">=" -> a >= b;
                case "=" -> a == b;
                default -> a != b;
            };
        }

        int sum() {
            int value = product();
            while (peek().equals("+") || peek().equals("-")) {
                boolean more = take().equals("+");
                int other = product();
                value = held(more ? (long) value + other : (long) value - other);
            }
            return value;
        }

        private int product() {
            int value = one();
            while (peek().equals("*") || peek().equals("/")) {
                boolean times = take().equals("*");
                int other = one();
                value = held(times ? (long) value * other : other == 0 ? 0 : value / other);
            }
            return value;
        }

        private int one() {
            Token token = tokens.get(at);
            String t = take();
            if (token.isNumber()) {
                return token.number();
            }
            if (t.equals("-")) {
                return held(-one());
            }
            if (t.equals("(")) {
                int value = sum();
                take();
                return value;
            }
            return values.get(t);
        }
    }

    private static final class State {
        final int[] at = new int[8];
        final int[] names = new int[8];
        final int[] debts = new int[12];
        final Map<String, Integer> stood = new HashMap<>();
        int purse;
        int day;

        State() {
            Arrays.fill(at, -1);
            Arrays.fill(names, -1);
        }

        State copy() {
            State c = new State();
            System.arraycopy(at, 0, c.at, 0, 8);
            System.arraycopy(names, 0, c.names, 0, 8);
            System.arraycopy(debts, 0, c.debts, 0, 12);
            c.stood.putAll(stood);
            c.purse = purse;
            c.day = day;
            return c;
        }
    }

    private static final class Model {
        List<int[]> plinths = new ArrayList<>();
        List<int[]> heads = new ArrayList<>();
        List<int[]> sights = new ArrayList<>();
        List<List<Clause>> texts = new ArrayList<>();
        List<State> steps = new ArrayList<>();
        State state = new State();
        int ruling = -1;
        Model image;
        final List<Integer> tape = new ArrayList<>();
        int latestFault = -1;
        int latestPlace = -1;

        private Model kept() {
            Model m = new Model();
            m.plinths = new ArrayList<>(plinths);
            m.heads = new ArrayList<>(heads);
            m.sights = new ArrayList<>(sights);
            m.texts = new ArrayList<>(texts);
            for (State s : steps) {
                m.steps.add(s.copy());
            }
            m.state = state.copy();
            m.ruling = ruling;
            return m;
        }

        int image() {
            image = kept();
            return state.day;
        }

        int back() {
            Model m = (image == null ? new Model() : image).kept();
            plinths = m.plinths;
            heads = m.heads;
            sights = m.sights;
            texts = m.texts;
            steps = m.steps;
            state = m.state;
            ruling = m.ruling;
            return state.day;
        }

        private static boolean in(int value, int least, int most) {
            return value >= least && value <= most;
        }

        private boolean isPlinth(int p) {
            return in(p, 0, plinths.size() - 1);
        }

        private boolean isHead(int h) {
            return in(h, 0, heads.size() - 1);
        }

        int headAt(int p) {
            return state.at[p];
        }

        private int placeOf(int h) {
            for (int p = 0; p < 8; p++) {
                if (state.at[p] == h) {
                    return p;
                }
            }
            return -1;
        }

        private void step() {
            steps.add(state.copy());
            if (steps.size() > 20) {
                steps.remove(0);
            }
        }

        int plinth(int x, int y, int shade, int view) {
            if (!in(x, 0, 99) || !in(y, 0, 99) || !in(shade, 0, 9) || !in(view, 0, 9) || plinths.size() == 8) {
                return -1;
            }
            plinths.add(new int[] {x, y, shade, view});
            return plinths.size() - 1;
        }

        int head(int fame, int chin) {
            if (!in(fame, 0, 9) || !in(chin, 0, 3) || heads.size() == 12) {
                return -1;
            }
            heads.add(new int[] {fame, chin});
            return heads.size() - 1;
        }

        private boolean putNow(int h, int p) {
            if (!isHead(h) || !isPlinth(p) || headAt(p) >= 0 || placeOf(h) >= 0) {
                return false;
            }
            state.at[p] = h;
            return true;
        }

        private boolean offNow(int p) {
            if (!isPlinth(p) || headAt(p) < 0) {
                return false;
            }
            state.at[p] = -1;
            return true;
        }

        private boolean changeNow(int a, int b) {
            if (!isPlinth(a) || !isPlinth(b) || a == b || headAt(a) < 0 && headAt(b) < 0) {
                return false;
            }
            int h = state.at[a];
            state.at[a] = state.at[b];
            state.at[b] = h;
            return true;
        }

        private boolean stepIf(java.util.function.BooleanSupplier deed) {
            State ahead = state.copy();
            if (!deed.getAsBoolean()) {
                return false;
            }
            State after = state;
            state = ahead;
            step();
            state = after;
            return true;
        }

        boolean put(int h, int p) {
            return stepIf(() -> putNow(h, p));
        }

        int off(int p) {
            int h = isPlinth(p) ? headAt(p) : -1;
            stepIf(() -> offNow(p));
            return h;
        }

        boolean change(int a, int b) {
            return stepIf(() -> changeNow(a, b));
        }

        boolean carve(int p, int name) {
            if (!isPlinth(p) || !in(name, -1, 11) || state.names[p] == name) {
                return false;
            }
            step();
            state.names[p] = name;
            return true;
        }

        int pay(int h, int n) {
            if (!isHead(h) || !in(n, 1, 9999) || state.debts[h] < n || state.purse < n) {
                return -1;
            }
            step();
            state.debts[h] -= n;
            state.purse -= n;
            return state.debts[h];
        }

        int pass(int days) {
            if (!in(days, 1, 99) || state.day + days > 999) {
                return -1;
            }
            step();
            for (int i = 0; i < days; i++) {
                for (int p = 0; p < plinths.size(); p++) {
                    int h = headAt(p);
                    if (h < 0) {
                        state.purse += law("price", p, -1);
                        continue;
                    }
                    state.stood.merge(h + " under " + state.names[p], 1, Integer::sum);
                    state.purse += law("pays", p, h);
                    state.debts[h] += law("due", p, h);
                }
                for (int p = 0; p < plinths.size(); p++) {
                    if (headAt(p) >= 0 && law("falls", p, headAt(p)) == 1) {
                        state.at[p] = -1;
                    }
                }
                state.day++;
            }
            return state.day;
        }

        int feed(int[] five) {
            if (tape.size() > 280) {
                return -1;
            }
            for (int four : five) {
                for (byte b : java.nio.ByteBuffer.allocate(4).putInt(four).array()) {
                    tape.add(b & 255);
                }
            }
            return tape.size();
        }

        int end(int n) {
            if (!in(n, 0, tape.size())) {
                return -1;
            }
            while (tape.size() > n) {
                tape.remove(tape.size() - 1);
            }
            return n;
        }

        int text() {
            if (texts.size() == 4) {
                return -1;
            }
            Checker checker = new Checker(tape);
            tape.clear();
            boolean fine = checker.isFine();
            latestFault = checker.fault;
            latestPlace = checker.place;
            if (!fine) {
                return -1;
            }
            texts.add(checker.clauses);
            return texts.size() - 1;
        }

        int fault(int what) {
            return what == 0 ? latestFault : what == 1 ? latestPlace : -1;
        }

        boolean by(int text) {
            if (!in(text, -1, texts.size() - 1)) {
                return false;
            }
            ruling = text;
            return true;
        }

        int played(int text) {
            if (!in(text, 0, texts.size() - 1)) {
                return -2;
            }
            int number = 0;
            for (Clause c : texts.get(text)) {
                boolean done = switch (c.kind) {
                    case "put" -> put(c.one, c.other);
                    case "off" -> off(c.one) >= 0;
                    case "change" -> change(c.one, c.other);
                    case "pass" -> pass(c.one) >= 0;
                    default -> true;
                };
                if (!done) {
                    return number;
                }
                number++;
            }
            return -1;
        }

        int undo() {
            if (steps.isEmpty()) {
                return -1;
            }
            state = steps.remove(steps.size() - 1);
            return steps.size();
        }

        private int apart(int a, int b) {
            return Math.abs(plinths.get(a)[0] - plinths.get(b)[0]) + Math.abs(plinths.get(a)[1] - plinths.get(b)[1]);
        }

        private int law(String law, int p, int h) {
            if (ruling >= 0) {
                for (Clause c : texts.get(ruling)) {
                    if (c.kind.equals(law)) {
                        Reckoner r = new Reckoner(c.tokens, values(p, h));
                        return law.equals("falls") ? bit(r.either()) : Math.max(0, Math.min(999, r.sum()));
                    }
                }
            }
            return law.equals("due") ? 1 : 0;
        }

        private Map<String, Integer> values(int p, int h) {
            Map<String, Integer> values = new HashMap<>();
            values.put("plinth", p);
            values.put("shade", plinths.get(p)[2]);
            values.put("view", plinths.get(p)[3]);
            values.put("day", state.day);
            if (h < 0) {
                int close = 0;
                for (int q = 0; q < plinths.size(); q++) {
                    close += q != p && apart(p, q) <= 10 ? 1 : 0;
                }
                values.put("close", close);
            } else {
                values.put("head", h);
                values.put("fame", heads.get(h)[0]);
                values.put("name", state.names[p]);
                values.put("right", bit(state.names[p] == h));
                values.put("owes", state.debts[h]);
            }
            return values;
        }

        int of(int p, int what) {
            if (!isPlinth(p) || !in(what, 0, 6)) {
                return -2;
            }
            int h = headAt(p);
            if (what < 2) {
                return what == 0 ? h : state.names[p];
            }
            String law = List.of("due", "pays", "birds", "price", "falls").get(what - 2);
            return law.equals("price") == (h < 0) ? law(law, p, h) : 0;
        }

        int headOf(int h, int what) {
            if (!isHead(h) || !in(what, 0, 3)) {
                return -2;
            }
            return what == 0 ? placeOf(h) : what == 1 ? state.debts[h] : heads.get(h)[what - 2];
        }

        int best(int plinth) {
            if (plinth != -1 && !isPlinth(plinth)) {
                return -100000;
            }
            int[][] gain = new int[plinths.size()][heads.size() + 1];
            for (int p = 0; p < plinths.size(); p++) {
                gain[p][0] = law("price", p, -1);
                for (int h = 0; h < heads.size(); h++) {
                    gain[p][h + 1] = law("pays", p, h) - law("due", p, h);
                }
            }
            Map<Integer, Integer> known = new HashMap<>();
            if (plinth == -1) {
                return most(gain, 0, 0, known);
            }
            int used = 0;
            for (int p = 0; p <= plinth; p++) {
                int due = most(gain, p, used, known);
                for (int c = 0; c <= heads.size(); c++) {
                    int bit = c == 0 ? 0 : 1 << c;
                    if ((used & bit) == 0 && gain[p][c] + most(gain, p + 1, used | bit, known) == due) {
                        if (p == plinth) {
                            return c - 1;
                        }
                        used |= bit;
                        break;
                    }
                }
            }
            throw new IllegalStateException();
        }

        private int most(int[][] gain, int p, int used, Map<Integer, Integer> known) {
            if (p == gain.length) {
                return 0;
            }
            Integer had = known.get(used * 8 + p);
            if (had != null) {
                return had;
            }
            int most = Integer.MIN_VALUE;
            for (int c = 0; c <= heads.size(); c++) {
                int bit = c == 0 ? 0 : 1 << c;
                if ((used & bit) == 0) {
                    most = Math.max(most, gain[p][c] + most(gain, p + 1, used | bit, known));
                }
            }
            known.put(used * 8 + p, most);
            return most;
        }

        int seen(int night, int p, int chin) {
            if (!in(night, 1, 8) || !isPlinth(p) || !in(chin, -1, 3) || sights.size() == 12) {
                return -1;
            }
            sights.add(new int[] {night, p, chin});
            return sights.size();
        }

        int forget() {
            int were = sights.size();
            sights.clear();
            return were;
        }

        int fewest() {
            return fewestWith(-1, -1, -1);
        }

        /** The fewest changes with one more thing known: this head (or none) there behind that night. */
        private int fewestWith(int night, int plinth, int head) {
            if (plinths.size() > 5) {
                return -1;
            }
            List<Integer> start = new ArrayList<>();
            for (int p = 0; p < plinths.size(); p++) {
                start.add(headAt(p));
            }
            Map<List<Integer>, Integer> reached = new HashMap<>();
            reached.put(start, 0);
            for (int n = 0; n <= 8; n++) {
                if (n > 0) {
                    reached = anyChanges(reached);
                }
                Map<List<Integer>, Integer> left = new HashMap<>();
                for (Map.Entry<List<Integer>, Integer> e : reached.entrySet()) {
                    boolean fits = n != night || e.getKey().get(plinth) == head;
                    for (int[] s : sights) {
                        int h = e.getKey().get(s[1]);
                        fits &= s[0] != n || (h < 0 ? -1 : heads.get(h)[1]) == s[2];
                    }
                    if (fits) {
                        left.put(e.getKey(), e.getValue());
                    }
                }
                reached = left;
            }
            return reached.values().stream().min(Integer::compare).orElse(-1);
        }

        private Map<List<Integer>, Integer> anyChanges(Map<List<Integer>, Integer> from) {
            Map<List<Integer>, Integer> all = new HashMap<>(from);
            boolean more = true;
            while (more) {
                more = false;
                for (Map.Entry<List<Integer>, Integer> e : new ArrayList<>(all.entrySet())) {
                    List<Integer> is = e.getKey();
                    int cost = all.get(is) + 1;
                    for (int a = 0; a < is.size(); a++) {
                        for (int b = 0; b < a; b++) {
                            if (is.get(a) < 0 && is.get(b) < 0) {
                                continue;
                            }
                            List<Integer> then = new ArrayList<>(is);
                            then.set(a, is.get(b));
                            then.set(b, is.get(a));
                            if (all.getOrDefault(then, 9999) > cost) {
                                all.put(then, cost);
                                more = true;
                            }
                        }
                    }
                }
            }
            return all;
        }

        int who(int night, int p) {
            int fewest = in(night, 0, 8) && isPlinth(p) ? fewest() : -1;
            if (fewest < 0) {
                return -1;
            }
            int bits = 0;
            for (int h = -1; h < heads.size(); h++) {
                if (fewestWith(night, p, h) == fewest) {
                    bits |= h < 0 ? 4096 : 1 << h;
                }
            }
            return bits;
        }

        int stood(int h, int name) {
            return isHead(h) && in(name, -1, 11) ? state.stood.getOrDefault(h + " under " + name, 0) : -1;
        }

        int longest(int name) {
            int found = -1;
            for (int h = heads.size() - 1; h >= 0; h--) {
                int days = stood(h, name);
                if (days > 0 && (found < 0 || days >= stood(found, name))) {
                    found = h;
                }
            }
            return found;
        }

        int tour(int from, int miles, int what) {
            if (!isPlinth(from) || !in(miles, 0, 999) || what < 0) {
                return -1;
            }
            List<int[]> all = new ArrayList<>();
            tours(new int[] {from}, 0, miles, all);
            int[] best = all.get(0);
            for (int[] t : all) {
                if (isBetter(t, best)) {
                    best = t;
                }
            }
            return what < 2 ? what == 0 ? view(best) : miles(best) : what - 2 < best.length ? best[what - 2] : -1;
        }

        private boolean isBetter(int[] a, int[] b) {
            if (view(a) != view(b)) {
                return view(a) > view(b);
            }
            return miles(a) != miles(b) ? miles(a) < miles(b) : Arrays.compare(a, b) < 0;
        }

        private int view(int[] t) {
            return Arrays.stream(t).map(p -> plinths.get(p)[3]).sum();
        }

        private int miles(int[] t) {
            int miles = 0;
            for (int i = 1; i < t.length; i++) {
                miles += apart(t[i - 1], t[i]);
            }
            return miles;
        }

        private void tours(int[] path, int miles, int limit, List<int[]> all) {
            all.add(path);
            for (int next = plinths.size() - 1; next >= 0; next--) {
                int p = next;
                int then = miles + apart(path[path.length - 1], p);
                if (then <= limit && Arrays.stream(path).noneMatch(q -> q == p)) {
                    int[] longer = Arrays.copyOf(path, path.length + 1);
                    longer[path.length] = p;
                    tours(longer, then, limit, all);
                }
            }
        }

        int rounds(int n, int day) {
            if (!in(n, 1, 5) || !in(day, -1, n - 1) || plinths.isEmpty()) {
                return -1;
            }
            int size = plinths.size();
            int[] birds = new int[size];
            for (int p = 0; p < size; p++) {
                birds[p] = of(p, 4);
            }
            int least = Integer.MAX_VALUE;
            int[] best = null;
            int all = (int) Math.pow(size, n);
            for (int code = 0; code < all; code++) {
                int[] plan = new int[n];
                int rest = code;
                for (int i = n - 1; i >= 0; i--) {
                    plan[i] = rest % size;
                    rest /= size;
                }
                int[] dirt = new int[size];
                int left = 0;
                for (int cleaned : plan) {
                    for (int p = 0; p < size; p++) {
                        dirt[p] += birds[p];
                    }
                    dirt[cleaned] = 0;
                    left += Arrays.stream(dirt).sum();
                }
                if (left < least) {
                    least = left;
                    best = plan;
                }
            }
            return day == -1 ? least : best[day];
        }

        int revolution(int seed, int n) {
            if (!in(seed, 0, 9999) || !in(n, 1, 99) || plinths.isEmpty() || heads.isEmpty()) {
                return -1;
            }
            step();
            long[] x = {seed * 13L + 5};
            java.util.function.IntUnaryOperator draw = m -> {
                int drawn = (int) (x[0] % m);
                x[0] = (x[0] * 193 + 71) % 30059;
                return drawn;
            };
            int done = 0;
            for (int i = 0; i < n; i++) {
                int kind = draw.applyAsInt(3);
                int a = draw.applyAsInt(kind == 0 ? heads.size() : plinths.size());
                int b = draw.applyAsInt(plinths.size());
                boolean did = kind == 0 ? putNow(a, b) : kind == 1 ? changeNow(a, b) : offNow(a);
                done += bit(did);
            }
            return done;
        }

        int about(int what) {
            int[] plain = {plinths.size(), heads.size(), state.day, state.purse, texts.size(), ruling, steps.size(),
                sights.size(), tape.size(), Arrays.stream(state.debts).sum()};
            if (in(what, 0, 9)) {
                return plain[what];
            }
            if (in(what, 10, 9 + plinths.size())) {
                return plinths.get(what - 10)[0] * 100 + plinths.get(what - 10)[1];
            }
            if (in(what, 20, 19 + plinths.size())) {
                return plinths.get(what - 20)[2] * 10 + plinths.get(what - 20)[3];
            }
            return -2;
        }
    }
}
