/** Part IV of the document and promises 26 to 30: each sentence that names a bound, at it and beyond. */
public final class TourBoundsTest {
    private static final int NONE = Checks.NONE;
    private static final int LOW = Checks.LOW;
    private static final int HIGH = Checks.HIGH;

    public static void main(String[] args) {
        tourOfOthers();
        tourPlaces();
        milesNoMoreThanTold();
        toursThatSkip();
        toursOfLikeViews();
        toursOfLikeMiles();
        roundsOfOthers();
        roundsDay();
        roundsOfFew();
        roundsOfMost();
        roundsAsItIs();
        roundsOfLikeOnes();
        revolutionOfOthers();
        revolutionWithout();
        revolutionDraws();
        whatCantBeIsntDone();
        oneStep();
        imageOfSteps();
        imageOfFullSteps();
        imageStays();
        textsBehindTheImage();
        tapeAndFaultStay();
        allIsBack();
        Checks.end();
    }

    private static void due(String call, int got, int want) {
        Checks.due(call, got, want);
    }

    private static void due(String call, boolean got, boolean want) {
        Checks.due(call, got, want);
    }

    /** Its view, its miles, its plinths and the end behind them. */
    private static void tour(StatuesWhoOwe x, int miles, int... want) {
        int from = want[2];
        String call = "tour(" + from + ", " + miles + ", ";
        for (int what = 0; what < want.length; what++) {
            due(call + what + ")", x.tour(from, miles, what), want[what]);
        }
        due(call + want.length + ")", x.tour(from, miles, want.length), NONE);
    }

    private static StatuesWhoOwe places(int... threes) {
        StatuesWhoOwe x = new StatuesWhoOwe();
        for (int i = 0; i < threes.length; i += 3) {
            due("plinth", x.plinth(threes[i], threes[i + 1], 0, threes[i + 2]), i / 3);
        }
        return x;
    }

    private static void tourOfOthers() {
        Checks.says("A TOUR (MILES 0 .. 999): what 0 VIEW, 1 MILES, 2 + i: its i-th PLINTH. NONE: there is none such, and for others.");
        for (int wrong : new int[] {-1, -2, 3, 7, 8, LOW, HIGH}) {
            Checks.refused("from " + wrong, Checks::busy, x -> x.tour(wrong, 50, 0), NONE);
        }
        for (int wrong : new int[] {-1, 1000, LOW, HIGH}) {
            Checks.refused("miles " + wrong, Checks::busy, x -> x.tour(0, wrong, 0), NONE);
        }
        for (int wrong : new int[] {-1, -2, 5, 6, 10, LOW, LOW + 1, HIGH}) {
            Checks.refused("what " + wrong, Checks::busy, x -> x.tour(0, 999, wrong), NONE);
        }
        due("0 miles", Checks.busy().tour(0, 0, 0), 9);
        due("999 miles", Checks.busy().tour(0, 999, 0), 9 + 8 + 7);
        due("from the last", Checks.square(8, 0).tour(7, 0, 0), 2);
        due("from beyond it", Checks.square(8, 0).tour(8, 0, 0), NONE);
        due("without plinths", new StatuesWhoOwe().tour(0, 0, 0), NONE);
    }

    private static void tourPlaces() {
        tour(Checks.square(1, 0), 999, 9, 0, 0);
        tour(Checks.square(8, 0), 0, 9, 0, 0);
        tour(Checks.square(8, 0), 999, 44, 70, 0, 1, 2, 3, 4, 5, 6, 7);
        StatuesWhoOwe x = Checks.square(8, 0);
        due("the eighth", x.tour(0, 999, 9), 7);
        due("no ninth", x.tour(0, 999, 10), NONE);
    }

    private static void milesNoMoreThanTold() {
        Checks.says("MILES (x and y apart, together, from each to the next) no more than told");
        tour(Checks.square(8, 0), 9, 9, 0, 0);
        tour(Checks.square(8, 0), 10, 17, 10, 0, 1);
        tour(Checks.square(8, 0), 11, 17, 10, 0, 1);
        tour(Checks.square(8, 0), 69, 42, 60, 0, 1, 2, 3, 4, 5, 6);
        StatuesWhoOwe corners = places(0, 0, 1, 99, 99, 1, 0, 99, 1, 99, 0, 1);
        tour(corners, 98, 1, 0, 0);
        tour(corners, 99, 2, 99, 0, 2);
        tour(corners, 197, 2, 99, 0, 2);
        tour(corners, 198, 3, 198, 0, 2, 1);
        tour(corners, 296, 3, 198, 0, 2, 1);
        tour(corners, 297, 4, 297, 0, 2, 1, 3);
        StatuesWhoOwe askew = places(5, 5, 1, 2, 9, 1);
        tour(askew, 6, 1, 0, 0);
        tour(askew, 7, 2, 7, 0, 1);
    }

    private static void toursThatSkip() {
        Checks.says("A TOUR from a PLINTH: some PLINTHS, it the first, each once, one behind the other (not back)");
        // 1 has no view and lies far off, 3 has little and lies off the way to 2.
        StatuesWhoOwe x = places(0, 0, 0, 5, 9, 0, 10, 0, 9, 5, 3, 1);
        tour(x, 7, 0, 0, 0);
        tour(x, 8, 1, 8, 0, 3);
        tour(x, 9, 1, 8, 0, 3);
        tour(x, 10, 9, 10, 0, 2);
        tour(x, 15, 9, 10, 0, 2);
        tour(x, 16, 10, 16, 0, 3, 2);
        tour(x, 999, 10, 16, 0, 3, 2);
        tour(Checks.square(2, 0), 20, 17, 10, 1, 0);
    }

    private static void toursOfLikeViews() {
        Checks.says("the most VIEW of all together; of like ones the fewest MILES");
        tour(places(0, 0, 3, 9, 0, 4, 0, 8, 4), 10, 7, 8, 0, 2);
        tour(places(0, 0, 3, 8, 0, 4, 0, 9, 4), 10, 7, 8, 0, 1);
        tour(places(0, 0, 3, 9, 0, 5, 0, 1, 4), 9, 8, 9, 0, 1);
        tour(places(0, 0, 0, 1, 0, 0, 2, 0, 0), 99, 0, 0, 0);
        // All from the middle: the nearer end first.
        tour(places(5, 0, 1, 0, 0, 1, 9, 0, 1), 99, 3, 13, 0, 2, 1);
    }

    private static void toursOfLikeMiles() {
        Checks.says("then the lowest second PLINTH (none below all), then third, ..");
        tour(places(0, 0, 3, 9, 0, 4, 0, 9, 4), 9, 7, 9, 0, 1);
        tour(places(5, 0, 1, 0, 0, 1, 10, 0, 1), 99, 3, 15, 0, 1, 2);
        tour(places(5, 5, 1, 5, 5, 0, 5, 5, 0), 99, 1, 0, 0);
        tour(places(5, 5, 1, 5, 5, 0, 5, 5, 1), 99, 2, 0, 0, 1, 2);
        tour(places(5, 5, 1, 5, 5, 1, 5, 5, 0), 99, 2, 0, 0, 1);
        tour(places(5, 5, 1, 5, 5, 1, 5, 5, 1), 99, 3, 0, 0, 1, 2);
        tour(places(5, 5, 1, 5, 5, 1, 5, 5, 1), 99, 3, 0, 2, 0, 1);
        tour(places(5, 5, 1, 5, 5, 1, 5, 5, 1, 5, 5, 1, 5, 5, 1, 5, 5, 1, 5, 5, 1, 5, 5, 1), 0, 8, 0, 0, 1, 2, 3, 4, 5, 6, 7);
        tour(places(0, 0, 1, 0, 0, 1, 4, 0, 1, 4, 0, 0), 4, 3, 4, 0, 1, 2);
    }

    private static StatuesWhoOwe dirty(int... birds) {
        StatuesWhoOwe x = new StatuesWhoOwe();
        for (int i = 0; i < birds.length; i++) {
            x.plinth(i, i, birds[i], 0);
            x.head(0, 0);
            x.put(i, i);
        }
        Checks.rule(x, "birds shade;");
        return x;
    }

    /** The plinths day by day, and the dirt together behind them. */
    private static void rounds(StatuesWhoOwe x, int... want) {
        int n = want.length - 1;
        for (int day = 0; day < n; day++) {
            due("rounds(" + n + ", " + day + ")", x.rounds(n, day), want[day]);
        }
        due("rounds(" + n + ", NONE)", x.rounds(n, NONE), want[n]);
    }

    private static void roundsOfOthers() {
        Checks.says("ROUNDS of n DAYS (1 to 5)");
        due("1", Checks.busy().rounds(1, 0), 1);
        due("5", Checks.busy().rounds(5, 4) >= 0, true);
        for (int wrong : new int[] {0, -1, 6, LOW, HIGH}) {
            Checks.refused("rounds(" + wrong + ", 0)", Checks::busy, x -> x.rounds(wrong, 0), NONE);
            Checks.refused("rounds(" + wrong + ", NONE)", Checks::busy, x -> x.rounds(wrong, NONE), NONE);
        }
    }

    private static void roundsDay() {
        Checks.says("ROUNDS: day NONE: the DIRT together; else the PLINTH of that DAY (0 .. n - 1). NONE for others, and without PLINTHS.");
        for (int n = 1; n <= 5; n++) {
            int days = n;
            for (int wrong : new int[] {-2, n, n + 1, LOW, HIGH}) {
                Checks.refused("rounds(" + n + ", " + wrong + ")", Checks::busy, x -> x.rounds(days, wrong), NONE);
            }
            due("the first", Checks.busy().rounds(n, 0) >= 0, true);
            due("the last", Checks.busy().rounds(n, n - 1) >= 0, true);
            due("without plinths", Checks.square(0, 3).rounds(n, NONE), NONE);
            due("without plinths", Checks.square(0, 3).rounds(n, 0), NONE);
        }
    }

    private static void roundsOfFew() {
        Checks.says("the DIRT left behind each DAY, all together, is least");
        rounds(Checks.square(1, 0), 0, 0);
        rounds(Checks.square(3, 3), 0, 0, 0, 0, 0, 0);
        rounds(dirty(5), 0, 0);
        rounds(dirty(5), 0, 0, 0, 0, 0, 0);
        rounds(dirty(0, 5), 1, 0);
        rounds(dirty(0, 5), 1, 1, 1, 1, 1, 0);
        rounds(dirty(3, 4), 1, 3);
        rounds(dirty(3, 4), 0, 1, 4 + 3);
        rounds(dirty(1, 9), 1, 1, 1 + 2);
        rounds(dirty(1, 9), 1, 1, 1, 1 + 2 + 3);
        rounds(dirty(2, 3), 1, 0, 1, 2 + 3 + 2);
    }

    private static void roundsOfMost() {
        StatuesWhoOwe x = Checks.square(8, 8);
        for (int i = 0; i < 8; i++) {
            x.put(i, i);
        }
        Checks.rule(x, "birds 9999;");
        rounds(x, 0, 999 * 7);
        // Without a keeper 8 * 15 times 999; he spares 5, 8, 9, 8 and 5 times that.
        rounds(x, 0, 1, 2, 3, 4, 999 * (120 - 35));
        // Always at 7 leaves 7 * 15; a third day at 0 spares 9 of that and leaves 9 on it.
        rounds(dirty(1, 1, 1, 1, 1, 1, 1, 9), 7, 7, 0, 7, 7, 7 * 15);
    }

    private static void roundsAsItIs() {
        Checks.says("DIRT (0 at first) of each PLINTH with a HEAD is more by birds (as it is now)");
        StatuesWhoOwe x = Checks.square(2, 2);
        x.put(0, 1);
        Checks.rule(x, "birds day + owes + 1;");
        rounds(x, 1, 0);
        x.put(1, 0);
        rounds(x, 0, 1);
        x.pass(2);
        rounds(x, 0, 5);
        rounds(x, 0, 1, 5 + 5);
        rounds(x, 0, 1, 0, 5 + 5 + 5);
        x.off(0);
        rounds(x, 1, 0);
        rounds(x, 1, 1, 0);
        x.by(NONE);
        rounds(x, 0, 0, 0);
        Checks.refused("it cleans nothing yet", Checks::busy, y -> y.rounds(5, NONE), 2 + 3 + 2 + 3 + 2);
    }

    private static void roundsOfLikeOnes() {
        Checks.says("of like ones the lowest PLINTH on the first DAY, then second, ..");
        rounds(dirty(1, 1), 0, 1);
        rounds(dirty(0, 0, 4), 2, 0);
        rounds(dirty(4, 4, 4), 0, 8);
        rounds(dirty(4, 4, 4), 0, 1, 8 + 12);
        rounds(dirty(4, 4), 0, 1, 0, 4 + 4 + 4);
        rounds(dirty(0, 7, 7), 1, 2, 7 + 7);
        rounds(dirty(3, 3, 3, 3, 3, 3), 0, 1, 2, 3, 4, 6 * 45 - 3 * 35);
    }

    private static void revolutionOfOthers() {
        Checks.says("A REVOLUTION of n turns (1 .. 99) by a SEED: X is SEED (0 .. 9999) * 13 + 5");
        for (int wrong : new int[] {-1, 10000, LOW, HIGH}) {
            Checks.refused("seed " + wrong, Checks::busy, x -> x.revolution(wrong, 1), NONE);
        }
        for (int wrong : new int[] {0, -1, 100, LOW, HIGH}) {
            Checks.refused("turns " + wrong, Checks::busy, x -> x.revolution(1, wrong), NONE);
        }
        due("seed 0", Checks.busy().revolution(0, 1) >= 0, true);
        due("seed 9999", Checks.busy().revolution(9999, 1) >= 0, true);
        due("99 turns", Checks.busy().revolution(1, 99) >= 0, true);
    }

    private static void revolutionWithout() {
        Checks.says("A REVOLUTION: how many were done. NONE for others, and without PLINTHS or HEADS.");
        Checks.refused("without heads", () -> Checks.square(8, 0), x -> x.revolution(0, 1), NONE);
        Checks.refused("without plinths", () -> Checks.square(0, 12), x -> x.revolution(0, 1), NONE);
        Checks.refused("without both", () -> Checks.square(0, 0), x -> x.revolution(0, 1), NONE);
        due("one of each", Checks.square(1, 1).revolution(1, 1), 1);
    }

    private static int draw(int[] drawn, int by) {
        int answer = drawn[0] % by;
        drawn[0] = (drawn[0] * 193 + 71) % 30059;
        return answer;
    }

    /** The same turns by hand. */
    private static int turns(StatuesWhoOwe x, int seed, int n) {
        int[] drawn = {seed * 13 + 5};
        int done = 0;
        for (int turn = 0; turn < n; turn++) {
            int kind = draw(drawn, 3);
            int one = draw(drawn, kind == 0 ? x.about(1) : x.about(0));
            int other = draw(drawn, x.about(0));
            boolean did = kind == 0 ? x.put(one, other) : kind == 1 ? x.change(one, other) : x.off(one) != NONE;
            done += did ? 1 : 0;
        }
        return done;
    }

    private static void revolutionDraws() {
        Checks.says("a draw by m: X mod m, X being (X * 193 + 71) mod 30059 then.");
        // 2311 is the last seed whose X is below 30059, so the next one tells whether X itself is drawn.
        int[] seeds = {0, 1, 2310, 2311, 2312, 2313, 4624, 9998, 9999};
        int[][] squares = {{1, 1}, {1, 12}, {8, 1}, {8, 12}, {3, 4}, {2, 2}};
        for (int seed : seeds) {
            for (int[] size : squares) {
                for (int n : new int[] {1, 2, 3, 98, 99}) {
                    StatuesWhoOwe x = Checks.square(size[0], size[1]);
                    StatuesWhoOwe y = Checks.square(size[0], size[1]);
                    String call = "revolution(" + seed + ", " + n + ") of " + size[0] + ", " + size[1];
                    due(call, x.revolution(seed, n), turns(y, seed, n));
                    for (int plinth = 0; plinth < size[0]; plinth++) {
                        due(call + ": of(" + plinth + ", 0)", x.of(plinth, 0), y.of(plinth, 0));
                    }
                }
            }
        }
        // X is 129992: 2 by 3 (9756, less 30059 four times, would be 0 by 3), so the first draw takes off.
        StatuesWhoOwe x = Checks.square(1, 1);
        x.put(0, 0);
        due("seed 9999 takes off", x.revolution(9999, 1), 1);
        due("it is off", x.of(0, 0), NONE);
    }

    private static void whatCantBeIsntDone() {
        Checks.says("What can't be isn't done.");
        // X is 5: 2 by 3, so the head of a plinth is off.
        StatuesWhoOwe x = Checks.square(1, 1);
        due("none to take off", x.revolution(0, 1), 0);
        x.put(0, 0);
        due("one to take off", x.revolution(0, 1), 1);
        due("off", x.of(0, 0), NONE);
        // X is 18: 0 by 3, so the head is put.
        due("put", x.revolution(1, 1), 1);
        due("put already", x.revolution(1, 1), 0);
        due("it stays", x.of(0, 0), 0);
        // X is 31: 1 by 3, and a plinth can't change with itself.
        due("changed with itself", x.revolution(2, 1), 0);
        due("it stays", x.of(0, 0), 0);
        StatuesWhoOwe y = Checks.square(2, 1);
        due("changes without heads", y.revolution(2, 1), 0);
    }

    private static void oneStep() {
        Checks.says("How many were done (it is one STEP).");
        StatuesWhoOwe x = Checks.square(3, 4);
        x.put(3, 2);
        due("many", x.revolution(7, 99) > 20, true);
        due("steps", x.about(6), 2);
        due("taken back", x.undo(), 1);
        due("as ahead of it", x.of(2, 0), 3);
        due("as ahead of it", x.of(0, 0), NONE);
        StatuesWhoOwe y = Checks.square(1, 1);
        due("nothing done", y.revolution(0, 1), 0);
        due("a step all the same", y.about(6), 1);
        due("taken back", y.undo(), 0);
        for (int i = 0; i < 21; i++) {
            y.revolution(i, 1);
        }
        due("20 at most", y.about(6), 20);
    }

    private static void imageOfSteps() {
        Checks.says("AN IMAGE: all as it is, STEPS as well");
        Checks.says("THE IMAGE is as all is now: DAY.");
        StatuesWhoOwe x = Checks.square(1, 1);
        due("at first", x.image(), 0);
        x.pass(5);
        x.pass(6);
        due("image()", x.image(), 11);
        x.undo();
        x.undo();
        due("back()", x.back(), 11);
        due("steps", x.about(6), 2);
        due("undo", x.undo(), 1);
        due("day", x.about(2), 5);
        x.pass(1);
        x.pass(1);
        x.pass(1);
        x.back();
        due("steps", x.about(6), 2);
        x.undo();
        due("day", x.about(2), 5);
        x.undo();
        due("day", x.about(2), 0);
        due("no more", x.undo(), NONE);
    }

    private static void imageOfFullSteps() {
        for (int steps : new int[] {19, 20, 21, 33}) {
            StatuesWhoOwe x = Checks.square(1, 1);
            for (int i = 0; i < steps; i++) {
                x.pass(1);
            }
            due("image()", x.image(), steps);
            for (int i = 0; i < 27; i++) {
                x.pass(2);
            }
            for (int i = 0; i < 9; i++) {
                x.undo();
            }
            due("back()", x.back(), steps);
            int can = Math.min(20, steps);
            for (int left = can - 1; left >= 0; left--) {
                due("undo", x.undo(), left);
                due("day", x.about(2), steps - can + left);
            }
            due("no more", x.undo(), NONE);
        }
        StatuesWhoOwe late = Checks.square(0, 0);
        for (int i = 0; i < 37; i++) {
            late.pass(27);
        }
        due("image on the last day", late.image(), 999);
        late.undo();
        due("back to the last day", late.back(), 999);
    }

    private static void imageStays() {
        Checks.says("All is as at THE IMAGE again (it stays): DAY.");
        StatuesWhoOwe x = Checks.square(2, 2);
        x.pass(3);
        x.image();
        for (int i = 0; i < 3; i++) {
            x.put(i % 2, 1);
            x.pass(7);
            due("back()", x.back(), 3);
            due("of(1, 0)", x.of(1, 0), NONE);
        }
        x.put(0, 0);
        due("a new one", x.image(), 3);
        x.off(0);
        x.back();
        due("the new one", x.of(0, 0), 0);
        due("back at once", x.back(), 3);
        due("steps", x.about(6), 2);
    }

    private static void textsBehindTheImage() {
        Checks.says("TEXTS told behind it are gone behind going back.");
        for (int ahead = 0; ahead <= 4; ahead++) {
            StatuesWhoOwe x = Checks.square(1, 1);
            x.put(0, 0);
            for (int i = 0; i < ahead; i++) {
                Checks.rule(x, "due " + (10 + i) + ";");
            }
            x.image();
            for (int i = ahead; i < 4; i++) {
                Checks.rule(x, "due " + (20 + i) + ";");
            }
            x.end(0);
            due("a fifth", x.text(), NONE);
            x.by(NONE);
            x.back();
            due("texts", x.about(4), ahead);
            due("the text that rules", x.about(5), ahead - 1);
            due("its due", x.of(0, 2), ahead == 0 ? 1 : 9 + ahead);
            due("gone", x.by(ahead), false);
            due("gone", x.played(ahead), -2);
            for (int i = ahead; i < 4; i++) {
                due("told anew", Checks.read(x, "due " + (30 + i) + ";"), i);
            }
            for (int i = 0; i < 4; i++) {
                due("by", x.by(i), true);
                due("due", x.of(0, 2), (i < ahead ? 10 : 30) + i);
            }
        }
    }

    private static void tapeAndFaultStay() {
        Checks.says("but the tape and the latest FAULT;");
        StatuesWhoOwe x = Checks.square(1, 1);
        Checks.feed(x, "due 1;");
        x.image();
        x.end(2);
        x.back();
        due("the shorter tape", x.about(8), 2);
        Checks.feed(x, "e 1; off 99;");
        x.back();
        due("the longer tape", x.about(8), 14);
        due("no fault yet", x.fault(0), NONE);
        due("a fault", x.text(), NONE);
        x.back();
        due("the fault", x.fault(0), 2);
        due("its place", x.fault(1), 11);
        due("the tape is empty", x.about(8), 0);
        due("no fault", Checks.read(x, "pass 1;"), 0);
        x.back();
        due("the text is gone, not the fault", x.fault(0), 0);
        due("texts", x.about(4), 0);
        x.image();
        due("a fault", Checks.read(x, "?"), NONE);
        x.back();
        due("the latest", x.fault(0), 1);
        due("the latest", x.fault(1), 0);
    }

    private static void allIsBack() {
        Checks.says("AN IMAGE: all as it is, STEPS as well, but the tape and the latest FAULT;");
        StatuesWhoOwe x = Checks.busy();
        StatuesWhoOwe y = Checks.busy();
        due("image()", x.image(), 2);
        due("image()", y.image(), 2);
        x.plinth(1, 2, 3, 4);
        x.plinth(5, 6, 7, 8);
        x.plinth(9, 9, 9, 9);
        x.head(9, 3);
        x.put(3, 4);
        x.put(0, 5);
        x.carve(0, NONE);
        x.carve(5, 3);
        x.change(1, 3);
        x.pass(99);
        x.pay(1, 9);
        x.off(0);
        x.forget();
        x.seen(8, 5, NONE);
        x.seen(8, 4, 0);
        x.by(NONE);
        x.revolution(77, 77);
        due("back()", x.back(), 2);
        x.plinth(2, 2, 2, 2);
        y.plinth(2, 2, 2, 2);
        x.head(2, 2);
        y.head(2, 2);
        due("all is as it was", Checks.everything(x).equals(Checks.everything(y)), true);
        StatuesWhoOwe z = Checks.square(2, 0);
        Checks.rule(z, "price close;");
        z.image();
        z.plinth(5, 0, 0, 0);
        due("close to two", z.of(0, 5), 2);
        z.back();
        due("close to one again", z.of(0, 5), 1);
        z.plinth(50, 50, 0, 0);
        due("close to one still", z.of(0, 5), 1);
        due("close to none", z.of(2, 5), 0);
    }
}
