/** Part I of the document and promises 1 to 9, 16 to 18 and 31: each sentence that names a bound, at it and beyond. */
public final class SquareBoundsTest {
    private static final int NONE = Checks.NONE;
    private static final int LOW = Checks.LOW;
    private static final int HIGH = Checks.HIGH;

    public static void main(String[] args) {
        the512thCall();
        newObject();
        plinthsInNumber();
        plinthsWhere();
        plinthsHow();
        headsInNumber();
        headsHow();
        atFirst();
        dayAtFirst();
        put();
        putOfOthers();
        off();
        change();
        carve();
        payWithinNumbers();
        payWithinDebtAndPurse();
        passInOneCall();
        passToTheLastDay();
        daysOfStanding();
        paysThenDue();
        withoutHead();
        fallsBehindAll();
        emptySquare();
        severalDaysAreOneStep();
        twentySteps();
        everyKindOfStep();
        whatIsNoStep();
        undoOfNone();
        ofBounds();
        ofWithAndWithout();
        headOfBounds();
        aboutBounds();
        Checks.end();
    }

    private static void due(String call, int got, int want) {
        Checks.due(call, got, want);
    }

    private static void due(String call, boolean got, boolean want) {
        Checks.due(call, got, want);
    }

    private static StatuesWhoOwe square(int plinths, int heads) {
        return Checks.square(plinths, heads);
    }

    private static void the512thCall() {
        Checks.says("An object is used for at most 512 calls after it has been made");
        StatuesWhoOwe x = new StatuesWhoOwe();
        x.plinth(0, 0, 0, 0);
        x.head(0, 0);
        x.put(0, 0);
        for (int call = 4; call <= 511; call++) {
            due("call " + call, x.pass(1), call - 3);
        }
        due("call 512", x.stood(0, NONE), 508);
    }

    private static void newObject() {
        Checks.says("No PLINTHS, no HEADS; THE IMAGE is this.");
        StatuesWhoOwe x = new StatuesWhoOwe();
        due("about(0)", x.about(0), 0);
        due("about(1)", x.about(1), 0);
        due("of(0, 0)", x.of(0, 0), -2);
        due("headOf(0, 0)", x.headOf(0, 0), -2);
        due("put(0, 0)", x.put(0, 0), false);
        due("off(0)", x.off(0), NONE);
        due("change(0, 1)", x.change(0, 1), false);
        due("carve(0, 0)", x.carve(0, 0), false);
        due("pay(0, 1)", x.pay(0, 1), NONE);
        due("seen(1, 0, NONE)", x.seen(1, 0, NONE), NONE);
        due("who(0, 0)", x.who(0, 0), NONE);
        due("stood(0, NONE)", x.stood(0, NONE), NONE);
        due("tour(0, 0, 0)", x.tour(0, 0, 0), NONE);
        due("by(0)", x.by(0), false);
        due("played(0)", x.played(0), -2);
        StatuesWhoOwe z = square(3, 3);
        z.put(0, 0);
        z.pass(9);
        Checks.rule(z, "due 3;");
        z.seen(1, 1, 1);
        z.carve(1, 1);
        due("back() without an image", z.back(), 0);
        // The latest fault alone stays, as the document says of an image.
        due("the text had no fault", z.fault(0), 0);
        StatuesWhoOwe fresh = new StatuesWhoOwe();
        fresh.text();
        fresh.back();
        due("all is new", Checks.everything(z).equals(Checks.everything(fresh)), true);
    }

    private static void plinthsInNumber() {
        Checks.says("PLINTHS 0 .. 7 (told one by one)");
        StatuesWhoOwe x = new StatuesWhoOwe();
        for (int i = 0; i < 8; i++) {
            due("plinths ahead of it", x.about(0), i);
            due("plinth", x.plinth(i, i, i, i), i);
        }
        due("the last", x.about(17), 707);
        Checks.says("A PLINTH: its number. NONE for others, or if there are 8.");
        Checks.refused("a ninth", () -> square(8, 1), y -> y.plinth(0, 0, 0, 0), NONE);
        due("seven and one", square(7, 0).plinth(0, 0, 0, 0), 7);
    }

    private static void plinthsWhere() {
        Checks.says("at x, y (0 .. 99 each)");
        StatuesWhoOwe x = new StatuesWhoOwe();
        due("x 0, y 99", x.plinth(0, 99, 1, 1), 0);
        due("x 99, y 0", x.plinth(99, 0, 1, 1), 1);
        due("about(10)", x.about(10), 99);
        due("about(11)", x.about(11), 9900);
        for (int wrong : new int[] {-1, 100, LOW, HIGH}) {
            Checks.refused("x " + wrong, () -> square(2, 1), y -> y.plinth(wrong, 0, 0, 0), NONE);
            Checks.refused("y " + wrong, () -> square(2, 1), y -> y.plinth(0, wrong, 0, 0), NONE);
        }
    }

    private static void plinthsHow() {
        Checks.says("SHADE, VIEW (0 .. 9 each)");
        StatuesWhoOwe x = new StatuesWhoOwe();
        due("shade 0, view 9", x.plinth(1, 1, 0, 9), 0);
        due("shade 9, view 0", x.plinth(1, 1, 9, 0), 1);
        due("about(20)", x.about(20), 9);
        due("about(21)", x.about(21), 90);
        for (int wrong : new int[] {-1, 10, LOW, HIGH}) {
            Checks.refused("shade " + wrong, () -> square(2, 1), y -> y.plinth(0, 0, wrong, 0), NONE);
            Checks.refused("view " + wrong, () -> square(2, 1), y -> y.plinth(0, 0, 0, wrong), NONE);
        }
    }

    private static void headsInNumber() {
        Checks.says("HEADS 0 .. 11 (told one by one)");
        StatuesWhoOwe x = new StatuesWhoOwe();
        for (int i = 0; i < 12; i++) {
            due("heads ahead of it", x.about(1), i);
            due("head", x.head(i % 10, i % 4), i);
        }
        due("the last", x.headOf(11, 2), 1);
        Checks.says("A HEAD: its number. NONE for others, or if there are 12.");
        Checks.refused("a 13th", () -> square(1, 12), y -> y.head(0, 0), NONE);
        due("eleven and one", square(0, 11).head(0, 0), 11);
    }

    private static void headsHow() {
        Checks.says("FAME (0 .. 9), CHIN (0 .. 3)");
        StatuesWhoOwe x = new StatuesWhoOwe();
        due("fame 0, chin 3", x.head(0, 3), 0);
        due("fame 9, chin 0", x.head(9, 0), 1);
        due("fame", x.headOf(0, 2), 0);
        due("chin", x.headOf(0, 3), 3);
        due("fame", x.headOf(1, 2), 9);
        due("chin", x.headOf(1, 3), 0);
        for (int wrong : new int[] {-1, 10, LOW, HIGH}) {
            Checks.refused("fame " + wrong, () -> square(1, 2), y -> y.head(wrong, 0), NONE);
        }
        for (int wrong : new int[] {-1, 4, LOW, HIGH}) {
            Checks.refused("chin " + wrong, () -> square(1, 2), y -> y.head(0, wrong), NONE);
        }
    }

    private static void atFirst() {
        Checks.says("each on one PLINTH or none (at first), a PLINTH has one HEAD or none");
        StatuesWhoOwe x = square(8, 12);
        for (int head = 0; head < 12; head++) {
            due("headOf(" + head + ", 0)", x.headOf(head, 0), NONE);
        }
        for (int plinth = 0; plinth < 8; plinth++) {
            due("of(" + plinth + ", 0)", x.of(plinth, 0), NONE);
        }
        x.put(11, 7);
        due("on one", x.headOf(11, 0), 7);
        due("has one", x.of(7, 0), 11);
        Checks.says("the number of a HEAD (0 .. 11, told or not), or none (at first)");
        for (int plinth = 0; plinth < 8; plinth++) {
            due("of(" + plinth + ", 1)", x.of(plinth, 1), NONE);
        }
        due("a name", x.carve(0, 5), true);
        due("the name's head is on none still", x.headOf(5, 0), NONE);
        due("it can be put", x.put(5, 1), true);
        Checks.says("DEBT of a HEAD, PURSE: at first 0.");
        for (int head = 0; head < 12; head++) {
            due("headOf(" + head + ", 1)", x.headOf(head, 1), 0);
        }
        due("purse", x.about(3), 0);
        due("debts", x.about(9), 0);
    }

    private static void dayAtFirst() {
        Checks.says("DAY 0 .. 999 (at first 0).");
        StatuesWhoOwe x = square(0, 0);
        due("at first", x.about(2), 0);
        for (int i = 0; i < 111; i++) {
            x.pass(9);
        }
        due("at last", x.about(2), 999);
        Checks.refused("beyond", () -> onDay(999), y -> y.pass(1), NONE);
    }

    private static StatuesWhoOwe onDay(int day) {
        StatuesWhoOwe x = square(2, 2);
        x.put(0, 0);
        for (int left = day; left > 0; left -= 99) {
            x.pass(Math.min(left, 99));
        }
        due("the day", x.about(2), day);
        return x;
    }

    private static StatuesWhoOwe oneStands() {
        StatuesWhoOwe x = square(3, 3);
        x.put(1, 0);
        return x;
    }

    private static void put() {
        Checks.says("PUT: a HEAD that is on none, on a PLINTH without one.");
        Checks.refused("a head that is on another", SquareBoundsTest::oneStands, x -> Checks.bit(x.put(1, 2)), 0);
        Checks.refused("a plinth with another", SquareBoundsTest::oneStands, x -> Checks.bit(x.put(2, 0)), 0);
        Checks.refused("where it is", SquareBoundsTest::oneStands, x -> Checks.bit(x.put(1, 0)), 0);
        StatuesWhoOwe x = oneStands();
        due("another on another", x.put(0, 1), true);
        due("off", x.off(0), 1);
        due("on none again", x.put(1, 2), true);
        due("without one again", x.put(2, 0), true);
        due("all stand", x.of(0, 0) * 100 + x.of(1, 0) * 10 + x.of(2, 0), 201);
    }

    private static void putOfOthers() {
        Checks.says("PUT: true. False, if it can't be.");
        for (int wrong : new int[] {-1, -2, 3, 11, 12, LOW, HIGH}) {
            Checks.refused("head " + wrong, SquareBoundsTest::oneStands, x -> Checks.bit(x.put(wrong, 1)), 0);
            Checks.refused("plinth " + wrong, SquareBoundsTest::oneStands, x -> Checks.bit(x.put(0, wrong)), 0);
        }
        StatuesWhoOwe full = square(8, 12);
        due("head 12", full.put(12, 7), false);
        due("plinth 8", full.put(11, 8), false);
        due("the last on the last", full.put(11, 7), true);
        due("the first on the first", full.put(0, 0), true);
    }

    private static void off() {
        Checks.says("OFF: the HEAD. NONE, if there is none, and for others.");
        Checks.refused("no head", SquareBoundsTest::oneStands, x -> x.off(1), NONE);
        for (int wrong : new int[] {-1, -2, 3, 7, 8, LOW, HIGH}) {
            Checks.refused("plinth " + wrong, SquareBoundsTest::oneStands, x -> x.off(wrong), NONE);
        }
        StatuesWhoOwe x = square(8, 12);
        x.put(0, 7);
        x.put(11, 0);
        due("head 0", x.off(7), 0);
        due("head 11", x.off(0), 11);
        due("head 0 is on none", x.headOf(0, 0), NONE);
        due("none twice", x.off(0), NONE);
        due("beyond", x.off(8), NONE);
    }

    private static void change() {
        Checks.says("CHANGED: two unlike PLINTHS change their HEADS (one may have none; not both).");
        Checks.refused("like ones", SquareBoundsTest::oneStands, x -> Checks.bit(x.change(0, 0)), 0);
        Checks.refused("both without", SquareBoundsTest::oneStands, x -> Checks.bit(x.change(1, 2)), 0);
        StatuesWhoOwe x = oneStands();
        due("the second has none", x.change(0, 2), true);
        due("there", x.of(2, 0), 1);
        due("the first has none", x.change(1, 2), true);
        due("there", x.of(1, 0), 1);
        due("not there", x.of(2, 0), NONE);
        x.put(2, 2);
        due("both have one", x.change(1, 2), true);
        due("changed", x.of(1, 0) * 10 + x.of(2, 0), 21);
        Checks.says("CHANGED: true. False, if it can't be.");
        for (int wrong : new int[] {-1, -2, 3, 7, 8, LOW, HIGH}) {
            Checks.refused("one " + wrong, SquareBoundsTest::oneStands, y -> Checks.bit(y.change(wrong, 0)), 0);
            Checks.refused("other " + wrong, SquareBoundsTest::oneStands, y -> Checks.bit(y.change(0, wrong)), 0);
        }
        StatuesWhoOwe full = square(8, 1);
        full.put(0, 0);
        due("the first and the last", full.change(0, 7), true);
        due("one beyond", full.change(7, 8), false);
    }

    private static void carve() {
        Checks.says("A NAME carved on a PLINTH: the number of a HEAD (0 .. 11, told or not), or none (at first).");
        StatuesWhoOwe x = square(8, 1);
        due("told", x.carve(0, 0), true);
        due("not told", x.carve(7, 11), true);
        due("0", x.of(0, 1), 0);
        due("11", x.of(7, 1), 11);
        Checks.says("CARVED (name NONE: none): true. False for others, and if it is so already.");
        due("none", x.carve(0, NONE), true);
        due("none is there", x.of(0, 1), NONE);
        for (int wrong : new int[] {-2, 12, LOW, HIGH}) {
            Checks.refused("name " + wrong, Checks::busy, y -> Checks.bit(y.carve(0, wrong)), 0);
        }
        for (int wrong : new int[] {-1, -2, 3, 7, 8, LOW, HIGH}) {
            Checks.refused("plinth " + wrong, Checks::busy, y -> Checks.bit(y.carve(wrong, 0)), 0);
        }
        Checks.refused("none already", Checks::busy, y -> Checks.bit(y.carve(1, NONE)), 0);
        Checks.refused("1 already", Checks::busy, y -> Checks.bit(y.carve(0, 1)), 0);
        Checks.refused("11 already", Checks::busy, y -> Checks.bit(y.carve(2, 11)), 0);
        due("beyond the last", x.carve(8, 0), false);
        due("another one", x.carve(7, 10), true);
    }

    /** A debt and a purse above all that can be paid at once. */
    private static StatuesWhoOwe rich() {
        StatuesWhoOwe x = square(2, 2);
        x.put(0, 0);
        Checks.rule(x, "due 999; price 999;");
        x.pass(11);
        due("debt", x.headOf(0, 1), 10989);
        due("purse", x.about(3), 10989);
        return x;
    }

    private static void payWithinNumbers() {
        Checks.says("PAID n (1 .. 9999) for a HEAD: DEBT and PURSE are less by n");
        due("1", rich().pay(0, 1), 10988);
        due("9999", rich().pay(0, 9999), 990);
        StatuesWhoOwe x = rich();
        x.pay(0, 9999);
        due("the purse is less", x.about(3), 990);
        for (int wrong : new int[] {0, -1, 10000, LOW, HIGH}) {
            Checks.refused("pay " + wrong, SquareBoundsTest::rich, y -> y.pay(0, wrong), NONE);
        }
        Checks.says("PAID: the DEBT that is left. NONE, if it can't be.");
        for (int wrong : new int[] {-1, -2, 2, 11, 12, LOW, HIGH}) {
            Checks.refused("head " + wrong, SquareBoundsTest::rich, y -> y.pay(wrong, 1), NONE);
        }
    }

    /** Head 0 owes this, and the purse has that. */
    private static StatuesWhoOwe owing(int debt, int purse) {
        StatuesWhoOwe x = square(1, 2);
        x.put(0, 0);
        Checks.rule(x, "due " + debt + "; pays " + purse + ";");
        x.pass(1);
        due("debt", x.headOf(0, 1), debt);
        due("purse", x.about(3), purse);
        return x;
    }

    private static void payWithinDebtAndPurse() {
        Checks.says("none below 0 (else it can't be)");
        due("all of the debt", owing(5, 9).pay(0, 5), 0);
        due("all of the debt but one", owing(5, 9).pay(0, 4), 1);
        Checks.refused("one above the debt", () -> owing(5, 9), y -> y.pay(0, 6), NONE);
        due("all of the purse", owing(9, 5).pay(0, 5), 4);
        Checks.refused("one above the purse", () -> owing(9, 5), y -> y.pay(0, 6), NONE);
        due("all of both", owing(7, 7).pay(0, 7), 0);
        Checks.refused("one above both", () -> owing(7, 7), y -> y.pay(0, 8), NONE);
        Checks.refused("an empty purse", () -> owing(9, 0), y -> y.pay(0, 1), NONE);
        Checks.refused("no debt", () -> owing(0, 9), y -> y.pay(0, 1), NONE);
        Checks.refused("no debt of that head", () -> owing(9, 9), y -> y.pay(1, 1), NONE);
        StatuesWhoOwe x = owing(9, 9);
        x.off(0);
        due("for a head that is on none", x.pay(0, 9), 0);
    }

    private static void passInOneCall() {
        Checks.says("So many DAYS (1 .. 99; not beyond 999) pass: DAY. NONE for others.");
        due("1", square(1, 1).pass(1), 1);
        due("99", square(1, 1).pass(99), 99);
        for (int wrong : new int[] {0, -1, 100, LOW, HIGH, HIGH - 998}) {
            Checks.refused("pass " + wrong, Checks::busy, y -> y.pass(wrong), NONE);
        }
    }

    private static void passToTheLastDay() {
        due("to 998", onDay(900).pass(98), 998);
        due("to 999", onDay(900).pass(99), 999);
        due("to 999", onDay(998).pass(1), 999);
        Checks.refused("to 1000", () -> onDay(901), y -> y.pass(99), NONE);
        Checks.refused("to 1000", () -> onDay(998), y -> y.pass(2), NONE);
        Checks.refused("to 1000", () -> onDay(999), y -> y.pass(1), NONE);
        Checks.refused("far", () -> onDay(999), y -> y.pass(HIGH), NONE);
        StatuesWhoOwe x = onDay(999);
        x.undo();
        due("ahead of the last step", x.about(2), 990);
        due("again", x.pass(9), 999);
    }

    private static void daysOfStanding() {
        Checks.says("it has stood a DAY more under that NAME (or under none)");
        StatuesWhoOwe x = square(8, 12);
        x.put(0, 0);
        x.put(11, 7);
        x.carve(7, 11);
        x.pass(1);
        due("under none", x.stood(0, NONE), 1);
        due("under 11", x.stood(11, 11), 1);
        due("not under none", x.stood(11, NONE), 0);
        due("not under 0", x.stood(0, 0), 0);
        x.carve(0, 0);
        x.carve(7, 0);
        x.pass(99);
        due("under 0", x.stood(0, 0), 99);
        due("another under 0", x.stood(11, 0), 99);
        due("under none as ahead", x.stood(0, NONE), 1);
        due("one that doesn't stand", x.stood(5, NONE), 0);
        everyHeadUnderEveryName(0);
        everyHeadUnderEveryName(4);
    }

    /** Eight heads from this one on stand under none for a day, under 0 for two, .. under 11 for thirteen. */
    private static void everyHeadUnderEveryName(int from) {
        StatuesWhoOwe x = square(8, 12);
        for (int i = 0; i < 8; i++) {
            x.put(from + i, i);
        }
        for (int name = NONE; name < 12; name++) {
            for (int i = 0; i < 8; i++) {
                x.carve(i, name);
            }
            x.pass(name + 2);
        }
        for (int head = 0; head < 12; head++) {
            boolean stands = head >= from && head < from + 8;
            for (int name = NONE; name < 12; name++) {
                due("stood(" + head + ", " + name + ")", x.stood(head, name), stands ? name + 2 : 0);
            }
            due("debt of " + head, x.headOf(head, 1), stands ? 91 : 0);
        }
        due("day", x.about(2), 91);
        due("purse", x.about(3), 0);
    }

    private static void paysThenDue() {
        Checks.says("PURSE is more by pays, then its DEBT by due");
        StatuesWhoOwe x = square(1, 1);
        x.put(0, 0);
        Checks.rule(x, "due owes + 1; pays owes + 10;");
        x.pass(1);
        due("pays of the debt ahead of it", x.about(3), 10);
        due("due of the debt ahead of it", x.headOf(0, 1), 1);
        x.pass(1);
        due("purse", x.about(3), 10 + 11);
        due("debt", x.headOf(0, 1), 1 + 2);
        StatuesWhoOwe y = square(1, 1);
        y.put(0, 0);
        y.pass(1);
        due("without a text: due 1", y.headOf(0, 1), 1);
        due("without a text: pays 0", y.about(3), 0);
    }

    private static void withoutHead() {
        Checks.says("without: PURSE is more by price.");
        StatuesWhoOwe x = square(3, 1);
        x.put(0, 1);
        Checks.rule(x, "due 0; pays 100; price plinth * 10 + 1;");
        x.pass(1);
        due("two without, one with", x.about(3), 1 + 100 + 21);
        x.off(1);
        x.pass(1);
        due("three without", x.about(3), 122 + 1 + 11 + 21);
        StatuesWhoOwe y = square(1, 1);
        y.pass(1);
        due("without a text: price 0", y.about(3), 0);
    }

    private static void fallsBehindAll() {
        Checks.says("Then PLINTH by PLINTH: its HEAD is OFF, if falls is so. Then DAY is one more.");
        StatuesWhoOwe x = square(2, 2);
        x.put(0, 0);
        x.put(1, 1);
        Checks.rule(x, "due 3; pays 7; price 100; falls owes >= 6 and day = 1 and plinth = 0;");
        x.pass(1);
        due("owes too little", x.of(0, 0), 0);
        x.pass(1);
        due("owes enough on that day", x.of(0, 0), NONE);
        due("the other stays", x.of(1, 0), 1);
        due("no price on the day of the fall", x.about(3), 28);
        due("the day counts as stood", x.stood(0, NONE), 2);
        x.pass(1);
        due("price behind it", x.about(3), 28 + 100 + 7);
        due("its debt stays", x.headOf(0, 1), 6);
        StatuesWhoOwe y = square(8, 8);
        for (int i = 0; i < 8; i++) {
            y.put(i, i);
            y.carve(i, i);
        }
        Checks.rule(y, "falls 0 = 0;");
        y.pass(1);
        for (int i = 0; i < 8; i++) {
            due("all fall", y.of(i, 0), NONE);
            due("the names stay", y.of(i, 1), i);
        }
        due("each owes a day", y.about(9), 8);
    }

    private static void emptySquare() {
        Checks.says("A DAY passes: PLINTH by PLINTH by number");
        StatuesWhoOwe x = new StatuesWhoOwe();
        due("without plinths", x.pass(3), 3);
        due("purse", x.about(3), 0);
        due("a step", x.about(6), 1);
    }

    private static void severalDaysAreOneStep() {
        Checks.says("STEPS: all these (several DAYS at once are one)");
        StatuesWhoOwe x = square(1, 1);
        x.put(0, 0);
        x.pass(99);
        due("steps", x.about(6), 2);
        due("taken back at once", x.undo(), 1);
        due("day", x.about(2), 0);
        due("debt", x.headOf(0, 1), 0);
        due("stood", x.stood(0, NONE), 0);
    }

    private static void twentySteps() {
        Checks.says("the latest 20 can be taken back, the latest first");
        for (int steps : new int[] {0, 1, 19, 20, 21, 39, 40, 41, 60, 61}) {
            StatuesWhoOwe x = square(1, 1);
            for (int i = 0; i < steps; i++) {
                x.pass(1);
            }
            int can = Math.min(steps, 20);
            due("after " + steps, x.about(6), can);
            for (int left = can - 1; left >= 0; left--) {
                due("undo", x.undo(), left);
                due("the latest first", x.about(2), steps - can + left);
            }
            due("no more", x.undo(), NONE);
            due("the day", x.about(2), steps - can);
            due("a step anew", x.pass(1), steps - can + 1);
            due("it can be taken back", x.undo(), 0);
        }
    }

    private static void takenBack(String what, StatuesWhoOwe ahead, StatuesWhoOwe behind) {
        int steps = ahead.about(6);
        due(what + ": a step", behind.about(6), steps + 1);
        due(what + ": taken back", behind.undo(), steps);
        due(what + ": all is as ahead", Checks.everything(behind).equals(Checks.everything(ahead)), true);
    }

    private static void everyKindOfStep() {
        Checks.says("HEADS' places, NAMES, DEBTS, PURSE, DAY and what was stood are as ahead of it.");
        StatuesWhoOwe x = Checks.busy();
        due("put", x.put(0, 2), true);
        takenBack("put", Checks.busy(), x);
        x = Checks.busy();
        due("off", x.off(0), 1);
        takenBack("off", Checks.busy(), x);
        x = Checks.busy();
        due("change", x.change(0, 2), true);
        takenBack("change", Checks.busy(), x);
        x = Checks.busy();
        due("carve", x.carve(0, NONE), true);
        takenBack("carve", Checks.busy(), x);
        x = Checks.busy();
        due("pay", x.pay(1, 4), 0);
        takenBack("pay", Checks.busy(), x);
        x = Checks.busy();
        due("pass", x.pass(99), 101);
        takenBack("pass", Checks.busy(), x);
        x = Checks.busy();
        due("revolution", x.revolution(5, 99) > 0, true);
        takenBack("revolution", Checks.busy(), x);
    }

    private static void whatIsNoStep() {
        StatuesWhoOwe x = Checks.busy();
        int steps = x.about(6);
        x.plinth(5, 5, 5, 5);
        x.head(5, 1);
        x.seen(1, 1, 1);
        x.forget();
        x.text();
        x.by(NONE);
        x.feed(0, 0, 0, 0, 0);
        x.end(0);
        x.best(NONE);
        x.fewest();
        x.tour(0, 9, 0);
        x.rounds(2, 1);
        x.image();
        due("none of these is a step", x.about(6), steps);
        x.undo();
        due("told heads stay", x.about(1), 4);
        due("told plinths stay", x.about(0), 4);
        due("texts stay", x.about(4), 2);
        due("none rules still", x.about(5), NONE);
        due("nothing is seen still", x.about(7), 0);
    }

    private static void undoOfNone() {
        Checks.says("The latest STEP is taken back: how many can be yet. NONE: there is none.");
        Checks.refused("undo", () -> square(2, 2), x -> x.undo(), NONE);
        StatuesWhoOwe x = square(2, 2);
        x.put(0, 0);
        due("one", x.undo(), 0);
        due("none", x.undo(), NONE);
        due("none again", x.undo(), NONE);
    }

    private static void ofBounds() {
        Checks.says("6 whether its HEAD would fall now (1, 0). -2 for others.");
        for (int wrong : new int[] {-1, -2, 7, LOW, HIGH}) {
            Checks.refused("what " + wrong, Checks::busy, x -> x.of(0, wrong), -2);
        }
        for (int wrong : new int[] {-1, -2, 3, 7, 8, LOW, HIGH}) {
            for (int what = 0; what < 7; what++) {
                due("of(" + wrong + ", " + what + ")", Checks.busy().of(wrong, what), -2);
            }
        }
        StatuesWhoOwe full = square(8, 0);
        due("the last", full.of(7, 0), NONE);
        due("beyond", full.of(8, 0), -2);
    }

    private static void ofWithAndWithout() {
        Checks.says("2 due, 3 pays, 4 birds of its HEAD (0 without one), 5 price (0 with one)");
        StatuesWhoOwe x = square(2, 1);
        x.put(0, 0);
        Checks.rule(x, "due 2; pays 3; birds 4; price 5; falls 0 = 0;");
        int[] with = {0, NONE, 2, 3, 4, 0, 1};
        int[] without = {NONE, NONE, 0, 0, 0, 5, 0};
        for (int what = 0; what < 7; what++) {
            due("with, " + what, x.of(0, what), with[what]);
            due("without, " + what, x.of(1, what), without[what]);
        }
        Checks.rule(x, "falls owes > 0;");
        due("owes 0", x.of(0, 6), 0);
        x.by(NONE);
        x.pass(1);
        x.by(1);
        due("owes 1", x.of(0, 6), 1);
    }

    private static void headOfBounds() {
        Checks.says("0 its PLINTH (NONE), 1 DEBT, 2 FAME, 3 CHIN. -2 for others.");
        for (int wrong : new int[] {-1, -2, 4, LOW, HIGH}) {
            Checks.refused("what " + wrong, Checks::busy, x -> x.headOf(0, wrong), -2);
        }
        for (int wrong : new int[] {-1, -2, 3, 11, 12, LOW, HIGH}) {
            for (int what = 0; what < 4; what++) {
                due("headOf(" + wrong + ", " + what + ")", Checks.busy().headOf(wrong, what), -2);
            }
        }
        StatuesWhoOwe full = square(8, 12);
        full.put(0, 7);
        full.put(11, 0);
        due("head 0", full.headOf(0, 0), 7);
        due("head 11", full.headOf(11, 0), 0);
        due("head 10", full.headOf(10, 0), NONE);
        due("head 12", full.headOf(12, 0), -2);
    }

    private static void aboutBounds() {
        Checks.says("10 + plinth: 100 x + y, 20 + plinth: 10 SHADE + VIEW. -2 for others.");
        for (int wrong : new int[] {-1, -2, 13, 17, 18, 19, 23, 27, 28, 29, 30, LOW, HIGH}) {
            Checks.refused("about(" + wrong + ")", Checks::busy, x -> x.about(wrong), -2);
        }
        StatuesWhoOwe x = new StatuesWhoOwe();
        due("no plinth yet", x.about(10), -2);
        due("no plinth yet", x.about(20), -2);
        x.plinth(99, 98, 7, 6);
        due("about(10)", x.about(10), 9998);
        due("about(20)", x.about(20), 76);
        due("about(11)", x.about(11), -2);
        due("about(21)", x.about(21), -2);
        StatuesWhoOwe full = square(8, 0);
        due("about(17)", full.about(17), 7000);
        due("about(18)", full.about(18), -2);
        due("about(19)", full.about(19), -2);
        due("about(27)", full.about(27), 72);
        due("about(28)", full.about(28), -2);
        Checks.says("6 STEPS that can be taken back, 7 SEEN, 8 bytes of the tape, 9 DEBTS together");
        StatuesWhoOwe y = Checks.busy();
        int[] want = {3, 3, 2, 2 * 11, 1, 0, 5, 1, 14, 8};
        for (int what = 0; what < want.length; what++) {
            due("about(" + what + ")", y.about(what), want[what]);
        }
    }
}
