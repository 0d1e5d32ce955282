/** Part III of the document and promises 19 to 25: each sentence that names a bound, at it and beyond. */
public final class NightBoundsTest {
    private static final int NONE = Checks.NONE;
    private static final int LOW = Checks.LOW;
    private static final int HIGH = Checks.HIGH;

    public static void main(String[] args) {
        bestOfOthers();
        bestOfFew();
        bestOfMany();
        eachOnOneAtMost();
        bestAsItIs();
        bestByOneShilling();
        bestOfLikeOnes();
        bestOfLikeOnesAtTheEnds();
        theFirstPlinthDecides();
        bestBehindBest();
        seenWithin();
        seenAtMost();
        seenInAnyOrder();
        forget();
        fivePlinths();
        fewestOfNone();
        firstAndLastNight();
        anyNumberOfTimes();
        changesInEachNight();
        changesOfEmptyPlinths();
        allPlinthsFull();
        whoOfOthers();
        whoNow();
        whoBits();
        whoByNight();
        stood();
        longest();
        longestOfLikeOnes();
        Checks.end();
    }

    private static void due(String call, int got, int want) {
        Checks.due(call, got, want);
    }

    private static void due(String call, boolean got, boolean want) {
        Checks.due(call, got, want);
    }

    private static StatuesWhoOwe ruled(int plinths, int heads, String text) {
        StatuesWhoOwe x = Checks.square(plinths, heads);
        Checks.rule(x, text);
        return x;
    }

    /** The heads for the plinths, and the shillings of all together behind them. */
    private static void best(String what, StatuesWhoOwe x, int... want) {
        for (int plinth = 0; plinth < want.length - 1; plinth++) {
            due(what + ": best(" + plinth + ")", x.best(plinth), want[plinth]);
        }
        due(what + ": best(NONE)", x.best(NONE), want[want.length - 1]);
    }

    private static void bestOfOthers() {
        Checks.says("BEST: plinth NONE: all together; else the HEAD for it (NONE). -100000 for others.");
        for (int wrong : new int[] {-2, 3, 7, 8, LOW, HIGH}) {
            Checks.refused("best(" + wrong + ")", Checks::busy, x -> x.best(wrong), -100000);
        }
        StatuesWhoOwe full = ruled(8, 12, "due 0; pays 1;");
        due("the last", full.best(7), 7);
        due("beyond", full.best(8), -100000);
        due("no plinths", new StatuesWhoOwe().best(0), -100000);
        due("no plinths", new StatuesWhoOwe().best(NONE), 0);
    }

    private static void bestOfFew() {
        Checks.says("so that pays less due of all that stand and price of all PLINTHS without one, together, is most");
        best("no heads", ruled(2, 0, "price plinth + 3; pays 9;"), NONE, NONE, 7);
        best("no plinths", ruled(0, 3, "pays 9; price 9;"), 0);
        best("no text", Checks.square(2, 2), NONE, NONE, 0);
        best("one and one", ruled(1, 1, "pays 9;"), 0, 8);
        best("one head, two plinths", ruled(2, 1, "pays 9 - plinth; price 2;"), 0, NONE, 10);
        best("two heads, one plinth", ruled(1, 2, "pays fame + 5;"), 1, 5);
        best("below 0 is worse than none", ruled(2, 2, "due 999;"), NONE, NONE, 0);
        best("1 below 0 is worse than none", ruled(2, 2, "due 6; pays 5;"), NONE, NONE, 0);
    }

    private static void bestOfMany() {
        best("all pay most", ruled(8, 12, "due 0; pays 999;"), 0, 1, 2, 3, 4, 5, 6, 7, 7992);
        best("all prices", ruled(8, 12, "due 0; price 999;"), NONE, NONE, NONE, NONE, NONE, NONE, NONE, NONE, 7992);
        best("backwards", ruled(8, 12, "due 0; pays (12 - plinth) * head;"), 11, 10, 9, 8, 7, 6, 5, 4,
                12 * 11 + 11 * 10 + 10 * 9 + 9 * 8 + 8 * 7 + 7 * 6 + 6 * 5 + 5 * 4);
        best("forwards", ruled(8, 8, "due 0; pays plinth * head + 1;"), 0, 1, 2, 3, 4, 5, 6, 7,
                1 + 4 + 9 + 16 + 25 + 36 + 49 + 8);
        best("the last ones alone", ruled(8, 12, "due 1; pays head / 11 * 5;"), NONE, NONE, NONE, NONE, NONE, NONE, NONE, 11,
                4);
    }

    private static void eachOnOneAtMost() {
        Checks.says("BEST: HEADS on PLINTHS (any, each on one at most;");
        best("one is best for all", ruled(3, 2, "due 0; pays head * 50 + plinth + 1;"), NONE, 0, 1, 55);
        best("so the next but one", ruled(3, 3, "due 0; pays fame * 50 + plinth + 1;"), 0, 1, 2, 156);
    }

    private static void bestAsItIs() {
        Checks.says("NAMES as carved, DEBTS and DAY as they are)");
        StatuesWhoOwe x = Checks.square(2, 2);
        x.put(0, 0);
        x.carve(0, 1);
        x.carve(1, 0);
        x.pass(4);
        Checks.rule(x, "due owes; pays right * 20 + day; price day / 4;");
        best("by names", x, 1, 0, 20 + 4 + 20 + 4 - 4);
        x.carve(0, NONE);
        best("without a name", x, 1, 0, 4 + 24 - 4);
        x.carve(1, NONE);
        best("without names", x, NONE, 1, 1 + 4);
        due("what stands doesn't matter", x.of(0, 0), 0);
        x.change(0, 1);
        best("and stays so", x, NONE, 1, 5);
        Checks.refused("nothing is put", Checks::busy, y -> y.best(NONE), 3 * 3);
    }

    private static void bestByOneShilling() {
        Checks.says("of like ones the lowest HEAD for PLINTH 0 (none below all), then for 1, ..");
        best("one more than price", ruled(1, 2, "due 3; pays 10; price 6;"), 0, 7);
        best("as much as price", ruled(1, 2, "due 3; pays 10; price 7;"), NONE, 7);
        best("one less than price", ruled(1, 2, "due 3; pays 10; price 8;"), NONE, 8);
        best("the last head by one", ruled(1, 12, "due 0; pays 5 + head / 11;"), 11, 6);
        best("the last plinth by one", ruled(8, 1, "due 0; pays 5 + plinth / 7;"), NONE, NONE, NONE, NONE, NONE, NONE, NONE,
                0, 6);
        best("the first plinth by one", ruled(8, 1, "due 0; pays 6 - (plinth + 7) / 8;"), 0, NONE, NONE, NONE, NONE, NONE,
                NONE, NONE, 6);
    }

    private static void bestOfLikeOnes() {
        best("none below all", ruled(2, 1, "due 0; pays 5;"), NONE, 0, 5);
        best("none below all", ruled(3, 2, "due 0; pays 5;"), NONE, 0, 1, 10);
        best("nothing to win", ruled(3, 3, "due 0;"), NONE, NONE, NONE, 0);
        best("the lowest heads", ruled(3, 12, "due 0; pays 5;"), 0, 1, 2, 15);
        // Heads 1 and 2 are worth the same on both plinths, head 0 less: 1 goes first.
        best("the lower of like ones", ruled(2, 3, "due 0; pays (fame + 1) / 2 * 5 + 1;"), 1, 2, 12);
        best("the lowest for 0, not for 1", ruled(2, 2, "due 0; pays 5; price 0;"), 0, 1, 10);
        best("none for 0 at the same sum", ruled(2, 2, "due 0; pays 5 + plinth - plinth; price 5 - plinth * 5;"), NONE, 0, 10);
    }

    private static void bestOfLikeOnesAtTheEnds() {
        best("the last plinth, any head", ruled(8, 12, "due 0; pays plinth / 7 * 5; price shade * 0;"), NONE, NONE, NONE, NONE,
                NONE, NONE, NONE, 0, 5);
        best("the last plinth, none", ruled(8, 12, "due 0; pays plinth / 7 * 5; price plinth / 7 * 5;"), NONE, NONE, NONE,
                NONE, NONE, NONE, NONE, NONE, 5);
        best("the last plinth, head 0", ruled(8, 1, "due 0; pays plinth / 7 * 5; price shade / 7 * 4;"), NONE, NONE, NONE,
                NONE, NONE, NONE, NONE, 0, 5);
        // On one plinth head 11 is worth 5 more than 10, on the next 5 more than none: the lower head goes first.
        for (int plinth = 0; plinth < 7; plinth++) {
            StatuesWhoOwe x = Checks.square(8, 12);
            x.carve(plinth, 10);
            x.carve(plinth + 1, 11);
            Checks.rule(x, "due 9; pays (head / 10) * ((name + 1) / 11 * (1 - name / 11) * (100 + (head - 10) * 5)"
                    + " + name / 11 * (head - 10) * 14);");
            for (int i = 0; i < 8; i++) {
                due("best(" + i + ")", x.best(i), i == plinth ? 10 : i == plinth + 1 ? 11 : NONE);
            }
            due("best(NONE)", x.best(NONE), 91 + 5);
        }
    }

    /**
     * Fame and shade with view say by bits who is worth 50 where: 0 and 1 at 0, 11 at 1, 0 and 10 at 2, 1 and 11
     * at 3; 1 is worth 5 more at 0, and 11 is worth 5 at 1. So 0, 11, 10, 1 and 1, none, 0, 11 are like ones, and
     * the lowest for plinth 0 decides, however high the others are.
     */
    private static void theFirstPlinthDecides() {
        StatuesWhoOwe x = new StatuesWhoOwe();
        int[] bits = {3, 8, 5, 10};
        for (int i = 0; i < 4; i++) {
            x.plinth(i, i, Math.min(bits[i], 9), bits[i] - Math.min(bits[i], 9));
        }
        int[] fames = {1, 2, 0, 0, 0, 0, 0, 0, 0, 0, 4, 8};
        for (int fame : fames) {
            x.head(fame, 0);
        }
        x.carve(0, 1);
        x.carve(1, 11);
        Checks.rule(x, "due 0; pays ((shade+view)/fame - (shade+view)/fame/2*2) * 50 + right * (5 - plinth*50);");
        best("the first plinth decides", x, 0, 11, 10, 1, 50 + 5 + 50 + 50);
    }

    private static void bestBehindBest() {
        StatuesWhoOwe x = Checks.square(8, 12);
        String[] laws = {"due 0; pays 999;", "due 1; pays head / 11 * 5;", "due 0; pays (12 - plinth) * head;",
            "due 999; price 1;"};
        int[] all = {7992, 4, 552, 8};
        int[] first = {0, NONE, 11, NONE};
        int[] last = {7, 11, 4, NONE};
        for (String text : laws) {
            Checks.read(x, text);
        }
        for (int i = 0; i < 12; i++) {
            int text = i * 7 % 12 / 3;
            due("by", x.by(text), true);
            due("all", x.best(NONE), all[text]);
            due("first", x.best(0), first[text]);
            due("last", x.best(7), last[text]);
        }
    }

    private static void seenWithin() {
        Checks.says("in a NIGHT (1 .. 8) at a PLINTH a CHIN, or no HEAD (NONE)");
        Checks.says("One more SEEN: how many there are. NONE for others, or if there are 12.");
        due("night 1", Checks.square(3, 3).seen(1, 0, 0), 1);
        due("night 8", Checks.square(3, 3).seen(8, 2, 3), 1);
        due("no head", Checks.square(3, 3).seen(8, 2, NONE), 1);
        for (int wrong : new int[] {0, -1, 9, LOW, HIGH}) {
            Checks.refused("night " + wrong, Checks::busy, x -> x.seen(wrong, 0, 0), NONE);
        }
        for (int wrong : new int[] {-1, -2, 3, 5, 7, 8, LOW, HIGH}) {
            Checks.refused("plinth " + wrong, Checks::busy, x -> x.seen(1, wrong, 0), NONE);
        }
        for (int wrong : new int[] {-2, 4, LOW, HIGH}) {
            Checks.refused("chin " + wrong, Checks::busy, x -> x.seen(1, 0, wrong), NONE);
        }
        due("plinth 7", Checks.square(8, 0).seen(1, 7, 0), 1);
        due("plinth 8", Checks.square(8, 0).seen(1, 8, 0), NONE);
    }

    private static StatuesWhoOwe allSeen() {
        StatuesWhoOwe x = Checks.square(3, 3);
        x.put(1, 0);
        for (int i = 1; i <= 12; i++) {
            due("seen", x.seen(1 + i % 8, 1, 1), i);
        }
        return x;
    }

    private static void seenAtMost() {
        Checks.says("SEEN (12 at most; told in any order)");
        due("about(7)", allSeen().about(7), 12);
        Checks.refused("a 13th", NightBoundsTest::allSeen, x -> x.seen(1, 1, 1), NONE);
        Checks.refused("a 13th of none", NightBoundsTest::allSeen, x -> x.seen(8, 0, NONE), NONE);
        StatuesWhoOwe x = Checks.square(2, 2);
        x.put(0, 0);
        for (int i = 0; i < 11; i++) {
            x.seen(1, 0, 0);
        }
        due("eleven", x.fewest(), 0);
        due("the twelfth", x.seen(2, 1, 0), 12);
        due("it counts", x.fewest(), 1);
        due("the 13th", x.seen(3, 0, 0), NONE);
        due("it doesn't count", x.fewest(), 1);
    }

    private static void seenInAnyOrder() {
        for (int code = 0; code < 6; code++) {
            int[][] orders = {{0, 1, 2}, {0, 2, 1}, {1, 0, 2}, {1, 2, 0}, {2, 0, 1}, {2, 1, 0}};
            int[][] sights = {{2, 1, 1}, {5, 2, 1}, {8, 0, NONE}};
            StatuesWhoOwe x = Checks.square(3, 3);
            x.put(1, 0);
            for (int i : orders[code]) {
                x.seen(sights[i][0], sights[i][1], sights[i][2]);
            }
            due("fewest of order " + code, x.fewest(), 2);
            due("who of order " + code, x.who(4, 1), 4096 + 2);
        }
    }

    private static void forget() {
        Checks.says("Nothing is SEEN: how many were.");
        due("none", Checks.square(2, 2).forget(), 0);
        StatuesWhoOwe x = allSeen();
        due("twelve", x.forget(), 12);
        due("none again", x.forget(), 0);
        due("about(7)", x.about(7), 0);
        due("all is free again", x.fewest(), 0);
        for (int i = 1; i <= 12; i++) {
            due("seen anew", x.seen(1, 0, 1), i);
        }
        due("full again", x.seen(1, 0, 1), NONE);
        due("the old ones are gone", x.fewest(), 0);
    }

    private static void fivePlinths() {
        Checks.says("A HISTORY (5 PLINTHS at most)");
        Checks.says("FEWEST. NONE: none can be, or there are more than 5 PLINTHS.");
        for (int plinths = 0; plinths <= 8; plinths++) {
            StatuesWhoOwe x = Checks.square(plinths, 1);
            x.put(0, 0);
            due("fewest of " + plinths, x.fewest(), plinths > 5 ? NONE : 0);
            if (plinths > 0) {
                int last = plinths - 1;
                x.seen(8, last, 0);
                due("seen at the last of " + plinths, x.fewest(), plinths > 5 ? NONE : plinths > 1 ? 1 : 0);
                due("who of " + plinths, x.who(8, last), plinths > 5 ? NONE : 1);
                due("who of " + plinths, x.who(0, 0), plinths > 5 ? NONE : 1);
            }
        }
        StatuesWhoOwe x = Checks.square(5, 1);
        x.put(0, 0);
        x.image();
        x.plinth(9, 9, 9, 9);
        due("a sixth", x.fewest(), NONE);
        due("a sixth", x.who(0, 0), NONE);
        x.back();
        due("five again", x.fewest(), 0);
        due("five again", x.who(0, 0), 1);
    }

    private static StatuesWhoOwe cantBe() {
        StatuesWhoOwe x = Checks.square(2, 3);
        x.put(1, 0);
        x.seen(4, 1, 2);
        return x;
    }

    private static void fewestOfNone() {
        Checks.says("so that behind each NIGHT all that was SEEN in it is so.");
        Checks.refused("a chin that doesn't stand", NightBoundsTest::cantBe, StatuesWhoOwe::fewest, NONE);
        Checks.refused("a chin that doesn't stand", NightBoundsTest::cantBe, x -> x.who(0, 0), NONE);
        StatuesWhoOwe x = cantBe();
        x.forget();
        x.seen(4, 0, 1);
        x.seen(4, 1, 1);
        due("one head at two plinths", x.fewest(), NONE);
        x.forget();
        x.seen(4, 0, 1);
        x.seen(5, 1, 1);
        due("in two nights", x.fewest(), 1);
        x.forget();
        x.seen(4, 0, 1);
        x.seen(4, 0, NONE);
        due("a head and none", x.fewest(), NONE);
        x.forget();
        x.seen(1, 0, NONE);
        x.seen(1, 1, NONE);
        due("none at all", x.fewest(), NONE);
        x.forget();
        due("nothing seen", x.fewest(), 0);
        StatuesWhoOwe y = Checks.square(1, 1);
        y.seen(1, 0, NONE);
        due("no head on one plinth", y.fewest(), 0);
        y.put(0, 0);
        due("a head on one plinth", y.fewest(), NONE);
    }

    private static void firstAndLastNight() {
        Checks.says("from what stands now, in each NIGHT 1 .. 8 any PLINTHS are CHANGED (any number of times)");
        StatuesWhoOwe x = Checks.square(2, 1);
        x.put(0, 0);
        x.seen(1, 1, 0);
        due("in the first night", x.fewest(), 1);
        due("now", x.who(0, 0), 1);
        due("now", x.who(0, 1), 4096);
        for (int night = 1; night <= 8; night++) {
            due("behind " + night, x.who(night, 1), 1);
            due("behind " + night, x.who(night, 0), 4096);
        }
        x.forget();
        x.seen(8, 1, 0);
        due("in any night", x.fewest(), 1);
        due("now", x.who(0, 1), 4096);
        for (int night = 1; night < 8; night++) {
            due("behind " + night, x.who(night, 1), 4097);
        }
        due("behind the last", x.who(8, 1), 1);
        x.seen(7, 1, NONE);
        due("in the last night", x.fewest(), 1);
        due("behind 7", x.who(7, 0), 1);
        due("behind 8", x.who(8, 0), 4096);
    }

    private static void anyNumberOfTimes() {
        Checks.says("any PLINTHS are CHANGED (any number of times)");
        for (int night : new int[] {1, 8}) {
            StatuesWhoOwe x = Checks.square(5, 4);
            for (int i = 0; i < 4; i++) {
                x.put(i, i);
            }
            int[] chins = {1, 2, 3, NONE, 0};
            for (int i = 0; i < 5; i++) {
                x.seen(night, i, chins[i]);
            }
            due("all five in a ring", x.fewest(), 4);
            if (night > 1) {
                for (int i = 0; i < 5; i++) {
                    x.seen(night - 1, i, i == 4 ? NONE : i);
                }
                due("all in the last night", x.fewest(), 4);
            }
        }
    }

    private static void changesInEachNight() {
        Checks.says("FEWEST: how many changes, all NIGHTS together.");
        StatuesWhoOwe x = Checks.square(2, 2);
        x.put(0, 0);
        x.put(1, 1);
        for (int night = 1; night <= 8; night++) {
            x.seen(night, 0, night % 2);
            due("to and fro", x.fewest(), night);
        }
        x.forget();
        // Two pairs change in each of four nights.
        StatuesWhoOwe y = Checks.square(4, 4);
        for (int i = 0; i < 4; i++) {
            y.put(i, i);
        }
        for (int night = 1; night <= 6; night++) {
            y.seen(night, 0, night % 2);
            y.seen(night, 2, 2 + night % 2);
        }
        due("two in each", y.fewest(), 12);
    }

    private static void changesOfEmptyPlinths() {
        Checks.says("(one may have none; not both)");
        StatuesWhoOwe x = Checks.square(5, 1);
        due("no heads at all", x.fewest(), 0);
        due("none there", x.who(8, 4), 4096);
        for (int plinth = 0; plinth < 5; plinth++) {
            x.seen(1, plinth, NONE);
        }
        due("all seen without", x.fewest(), 0);
        x.put(0, 2);
        due("one head", x.fewest(), NONE);
        x.forget();
        for (int plinth = 1; plinth < 5; plinth++) {
            x.seen(1, plinth, NONE);
        }
        due("it must be at 0", x.fewest(), 1);
        due("there", x.who(1, 0), 1);
        due("not there", x.who(1, 2), 4096);
    }

    private static void allPlinthsFull() {
        StatuesWhoOwe x = Checks.square(5, 12);
        for (int i = 0; i < 5; i++) {
            x.put(7 + i, i);
        }
        due("nothing seen", x.fewest(), 0);
        for (int i = 0; i < 5; i++) {
            due("who(0, " + i + ")", x.who(0, i), 1 << 7 + i);
            due("who(8, " + i + ")", x.who(8, i), 1 << 7 + i);
        }
        // Chins 3, 0, 1, 2, 3: head 7 or 11 is at 1.
        x.seen(4, 1, 3);
        due("one change", x.fewest(), 1);
        due("who(0, 1)", x.who(0, 1), 1 << 8);
        due("who(4, 1)", x.who(4, 1), 1 << 7 | 1 << 11);
        x.forget();
        due("nothing seen behind it", x.fewest(), 0);
        x.seen(1, 0, NONE);
        due("none can be without", x.fewest(), NONE);
        due("none can be without", x.who(8, 0), NONE);
        x.forget();
        due("nothing seen behind it", x.fewest(), 0);
        due("nothing seen behind it", x.who(8, 0), 1 << 7);
    }

    private static void whoOfOthers() {
        Checks.says("WHO (bits; night 0: as it is now). NONE as FEWEST, and for others.");
        for (int wrong : new int[] {-1, -2, 9, LOW, HIGH}) {
            Checks.refused("night " + wrong, Checks::busy, x -> x.who(wrong, 0), NONE);
        }
        for (int wrong : new int[] {-1, -2, 3, 4, 5, 7, 8, LOW, HIGH}) {
            Checks.refused("plinth " + wrong, Checks::busy, x -> x.who(1, wrong), NONE);
        }
        StatuesWhoOwe full = Checks.square(5, 0);
        due("the last", full.who(8, 4), 4096);
        due("beyond", full.who(8, 5), NONE);
    }

    private static void whoNow() {
        StatuesWhoOwe x = Checks.square(3, 12);
        x.put(0, 0);
        x.put(11, 1);
        x.seen(1, 0, 3);
        x.seen(1, 1, 0);
        due("now", x.who(0, 0), 1);
        due("now", x.who(0, 1), 1 << 11);
        due("now", x.who(0, 2), 4096);
        due("then", x.who(1, 0), 1 << 11);
        due("then", x.who(1, 1), 1);
        due("then", x.who(1, 2), 4096);
    }

    private static void whoBits() {
        Checks.says("WHO can be at a PLINTH behind a NIGHT by HISTORIES of so few: HEADS (bits), and 4096, if none can be there.");
        StatuesWhoOwe x = Checks.square(5, 12);
        x.put(3, 0);
        x.put(7, 1);
        x.put(11, 2);
        x.put(0, 3);
        x.seen(8, 4, 3);
        due("one of three", x.fewest(), 1);
        due("all of that chin", x.who(8, 4), 1 << 3 | 1 << 7 | 1 << 11);
        due("or none yet", x.who(7, 4), 1 << 3 | 1 << 7 | 1 << 11 | 4096);
        due("who was there or none", x.who(8, 2), 1 << 11 | 4096);
        due("the other stays", x.who(8, 3), 1);
        x.seen(8, 0, 3);
        due("one less", x.who(8, 4), 1 << 7 | 1 << 11);
        due("it stays", x.who(8, 0), 1 << 3);
    }

    private static void whoByNight() {
        StatuesWhoOwe x = Checks.square(3, 2);
        x.put(0, 0);
        x.seen(3, 1, 0);
        x.seen(6, 2, 0);
        due("fewest", x.fewest(), 2);
        int[] first = {1, 4097, 4097, 4096, 4096, 4096, 4096, 4096, 4096};
        int[] second = {4096, 4097, 4097, 1, 4097, 4097, 4096, 4096, 4096};
        int[] third = {4096, 4096, 4096, 4096, 4097, 4097, 1, 1, 1};
        for (int night = 0; night <= 8; night++) {
            due("0 behind " + night, x.who(night, 0), first[night]);
            due("1 behind " + night, x.who(night, 1), second[night]);
            due("2 behind " + night, x.who(night, 2), third[night]);
        }
    }

    private static void stood() {
        Checks.says("STOOD (name NONE: under none). NONE for others.");
        StatuesWhoOwe x = Checks.square(8, 12);
        x.put(11, 7);
        x.put(0, 0);
        due("not a day", x.stood(11, NONE), 0);
        x.carve(7, 11);
        x.pass(99);
        due("head 11 under 11", x.stood(11, 11), 99);
        due("head 11 under 10", x.stood(11, 10), 0);
        due("head 11 under none", x.stood(11, NONE), 0);
        due("head 0 under none", x.stood(0, NONE), 99);
        due("head 0 under 0", x.stood(0, 0), 0);
        due("head 12", x.stood(12, 0), NONE);
        for (int wrong : new int[] {-1, -2, 3, 11, 12, LOW, HIGH}) {
            Checks.refused("head " + wrong, Checks::busy, y -> y.stood(wrong, 0), NONE);
        }
        for (int wrong : new int[] {-2, 12, LOW, HIGH}) {
            Checks.refused("name " + wrong, Checks::busy, y -> y.stood(0, wrong), NONE);
        }
        due("a name not told", Checks.busy().stood(0, 11), 0);
        StatuesWhoOwe most = Checks.square(1, 1);
        most.put(0, 0);
        for (int i = 0; i < 27; i++) {
            most.pass(37);
        }
        due("all days", most.stood(0, NONE), 999);
    }

    private static void longest() {
        Checks.says("LONGEST (name NONE: under none). NONE: nobody, and for others.");
        for (int wrong : new int[] {-2, 12, LOW, HIGH}) {
            Checks.refused("name " + wrong, Checks::busy, y -> y.longest(wrong), NONE);
        }
        due("no heads", Checks.square(1, 0).longest(NONE), NONE);
        StatuesWhoOwe x = Checks.square(8, 12);
        x.put(11, 0);
        x.carve(1, 0);
        x.put(5, 1);
        for (int name = NONE; name < 12; name++) {
            due("nobody yet", x.longest(name), NONE);
        }
        x.pass(1);
        due("under none", x.longest(NONE), 11);
        due("under 0", x.longest(0), 5);
        due("under 11", x.longest(11), NONE);
        x.carve(0, 11);
        x.pass(1);
        due("under 11", x.longest(11), 11);
        due("under none still", x.longest(NONE), 11);
        x.undo();
        due("taken back", x.longest(11), NONE);
    }

    private static void longestOfLikeOnes() {
        Checks.says("LONGEST under a NAME: the HEAD, of like ones the lowest; none, if nobody has.");
        StatuesWhoOwe x = Checks.square(2, 12);
        x.put(11, 0);
        x.pass(2);
        x.put(0, 1);
        x.pass(1);
        due("three days and one", x.longest(NONE), 11);
        x.off(0);
        x.pass(1);
        due("three days and two", x.longest(NONE), 11);
        x.pass(1);
        due("like ones", x.longest(NONE), 0);
        x.put(11, 0);
        x.off(1);
        x.pass(1);
        due("four days and three", x.longest(NONE), 11);
    }
}
