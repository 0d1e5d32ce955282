/** Part II of the document and promises 10 to 15: each sentence that names a bound, at it and beyond. */
public final class TextBoundsTest {
    private static final int NONE = Checks.NONE;
    private static final int LOW = Checks.LOW;
    private static final int HIGH = Checks.HIGH;
    private static final String[] LAWS = {"due", "pays", "birds", "price", "falls"};

    public static void main(String[] args) {
        feedUpTo300();
        feedInOrder();
        end();
        fourTexts();
        emptyAndFaultyTapes();
        nothingStaysOfFaulty();
        textsOf300Bytes();
        everyByte();
        numbers();
        theLongest();
        clauses();
        eachOnce();
        wordsOfClauses();
        faultOneAtTheEnd();
        faultTwo();
        faultThreeOfOneKind();
        faultThreeMixed();
        faultThreeSideBySide();
        faultFive();
        faultSix();
        theLeastOfOne();
        theFirst();
        faultAsked();
        by();
        playedOfOthers();
        playedToTheEnd();
        playedUpToWhatCantBe();
        whatLawsTell();
        withoutLaws();
        held();
        divided();
        close();
        namesAndRight();
        asks();
        Checks.end();
    }

    private static void due(String call, int got, int want) {
        Checks.due(call, got, want);
    }

    private static void due(String call, boolean got, boolean want) {
        Checks.due(call, got, want);
    }

    private static void fine(String text) {
        Checks.fine(text);
    }

    private static void faulty(String text, int fault, int place) {
        Checks.faulty(text, fault, place);
    }

    private static StatuesWhoOwe taped(int bytes) {
        StatuesWhoOwe x = Checks.square(1, 1);
        Checks.feed(x, "1".repeat(bytes));
        due("bytes of the tape", x.about(8), bytes);
        return x;
    }

    private static int twenty(StatuesWhoOwe x) {
        return x.feed(0x31313131, 0x31313131, 0x31313131, 0x31313131, 0x31313131);
    }

    private static void feedUpTo300() {
        Checks.says("how many it has. NONE, and none come, if there would be more than 300.");
        due("of an empty tape", twenty(taped(0)), 20);
        due("of 1", twenty(taped(1)), 21);
        due("of 279", twenty(taped(279)), 299);
        due("of 280", twenty(taped(280)), 300);
        for (int bytes : new int[] {281, 282, 299, 300}) {
            Checks.refused("of " + bytes, () -> taped(bytes), TextBoundsTest::twenty, NONE);
        }
    }

    private static void feedInOrder() {
        Checks.says("Twenty bytes come behind the tape, the highest of a first");
        StatuesWhoOwe x = new StatuesWhoOwe();
        // due 1;pays 2;bizds 3
        due("feed", x.feed(0x64756520, 0x313b7061, 0x79732032, 0x3b62697a, 0x64732033), 20);
        due("text()", x.text(), NONE);
        due("the misspelt birds", x.fault(1), 13);
        // Each of the twenty in turn is the one that is no token.
        for (int place = 0; place < 20; place++) {
            int[] five = {0x20202020, 0x20202020, 0x20202020, 0x20202020, 0x20202020};
            five[place / 4] ^= 0xdf << 24 - 8 * (place % 4);
            x.feed(five[0], five[1], five[2], five[3], five[4]);
            due("text()", x.text(), NONE);
            due("fault(0)", x.fault(0), 1);
            due("fault(1)", x.fault(1), place);
        }
        StatuesWhoOwe y = new StatuesWhoOwe();
        twenty(y);
        y.end(0);
        y.feed(-1, -1, -1, -1, -1);
        y.end(1);
        due("byte 255 is a byte", y.about(8), 1);
        due("text()", y.text(), NONE);
        due("fault(0)", y.fault(0), 1);
        due("fault(1)", y.fault(1), 0);
    }

    private static void end() {
        Checks.says("The tape has its first n bytes alone: n. NONE, and nothing is done, if it has not so many, or n is below 0.");
        for (int bytes : new int[] {0, 1, 20, 299, 300}) {
            due("all", taped(bytes).end(bytes), bytes);
            due("none", taped(bytes).end(0), 0);
            for (int wrong : new int[] {-1, bytes + 1, LOW, HIGH}) {
                Checks.refused("end(" + wrong + ") of " + bytes, () -> taped(bytes), x -> x.end(wrong), NONE);
            }
        }
        StatuesWhoOwe x = new StatuesWhoOwe();
        Checks.feed(x, "pass 1;pass 9;?");
        due("all but one", x.end(14), 14);
        due("the first ones stay", x.text(), 0);
        Checks.feed(x, "pass 1;pass 9;?");
        x.end(5);
        Checks.feed(x, "2;");
        due("text()", x.text(), 1);
        x.played(1);
        due("what came behind", x.about(2), 2);
    }

    private static StatuesWhoOwe fourTold() {
        StatuesWhoOwe x = Checks.square(1, 1);
        for (int i = 0; i < 4; i++) {
            due("a text", Checks.read(x, "pass " + (i + 1) + ";"), i);
        }
        Checks.feed(x, "due ; a fault");
        return x;
    }

    private static void fourTexts() {
        Checks.says("TEXTS 0 .. 3: of up to 300 bytes.");
        StatuesWhoOwe x = fourTold();
        for (int i = 0; i < 4; i++) {
            due("played", x.played(i), NONE);
        }
        due("each is itself", x.about(2), 1 + 2 + 3 + 4);
        Checks.says("NONE: it has a FAULT; or (the tape stays) there are 4.");
        Checks.refused("a fifth", TextBoundsTest::fourTold, StatuesWhoOwe::text, NONE);
        due("the tape stays", fourTold().about(8), 13);
        StatuesWhoOwe y = fourTold();
        y.text();
        due("the tape stays", y.about(8), 13);
        due("texts", y.about(4), 4);
        due("nothing was read", y.fault(0), 0);
        StatuesWhoOwe z = fourTold();
        z.end(0);
        due("an empty fifth", z.text(), NONE);
        due("texts", z.about(4), 4);
    }

    private static void emptyAndFaultyTapes() {
        Checks.says("The tape (empty then) is a TEXT: its number.");
        StatuesWhoOwe x = Checks.square(1, 1);
        due("of nothing", x.text(), 0);
        due("without a fault", x.fault(0), 0);
        due("nothing to do", x.played(0), NONE);
        due("blanks", Checks.read(x, "\n \n"), 1);
        due("the tape is empty", x.about(8), 0);
        due("a fault", Checks.read(x, "due 1; due 2;"), NONE);
        due("the tape is empty", x.about(8), 0);
        due("texts", x.about(4), 2);
        due("the next one", Checks.read(x, "due 1;"), 2);
        due("the tape is empty", x.about(8), 0);
    }

    private static void nothingStaysOfFaulty() {
        StatuesWhoOwe x = Checks.square(1, 1);
        x.put(0, 0);
        for (int i = 0; i < 3; i++) {
            due("a fault", Checks.read(x, "due 1" + "+1".repeat(147) + "?"), NONE);
        }
        due("a fault", Checks.read(x, "pays 8; due 7;" + "pass 9;".repeat(22) + "pass"), NONE);
        due("a fine one", Checks.read(x, "pass 2; birds 3;"), 0);
        x.by(0);
        due("due", x.of(0, 2), 1);
        due("pays", x.of(0, 3), 0);
        due("birds", x.of(0, 4), 3);
        due("played", x.played(0), NONE);
        due("its own days alone", x.about(2), 2);
        x.back();
        due("in its place", Checks.read(x, "pass 4; off 0; pass 1;"), 0);
        due("its own clauses alone", x.played(0), 1);
        due("its own days alone", x.about(2), 4);
    }

    private static void textsOf300Bytes() {
        Checks.says("TEXTS 0 .. 3: of up to 300 bytes.");
        for (int length : new int[] {299, 300}) {
            String digits = "due " + "0".repeat(length - 8) + "123;";
            StatuesWhoOwe x = Checks.square(1, 1);
            x.put(0, 0);
            Checks.rule(x, digits);
            due("due", x.of(0, 2), 123);
            String sum = "due 1" + " ".repeat(length % 2) + "+1".repeat((length - 6) / 2) + ";";
            due("length", sum.length(), length);
            Checks.rule(x, sum);
            due("due", x.of(0, 2), 1 + (length - 6) / 2);
        }
        faulty("due 1" + "+1".repeat(147) + "?", 1, 299);
        faulty("due 1" + "+1".repeat(147) + " ", 1, 300);
        faulty("pass 1;" + " ".repeat(292) + "x", 1, 299);
        fine("pass 1;" + " ".repeat(293));
    }

    /** What a byte is between due and " 1;": a letter, a digit, a blank, a sign or no token. */
    private static void everyByte() {
        Checks.says("TOKENS, blanks (32, 10) aside: letters a .. z, A .. Z one behind the other (one TOKEN), digits likewise");
        for (int b = 0; b < 256; b++) {
            String text = "due" + (char) b + " 1;";
            boolean letter = b >= 97 && b <= 122 || b >= 65 && b <= 90;
            if (b == 32 || b == 10 || b == '-') {
                fine(text);
            } else if (letter) {
                faulty(text, 1, 0);
            } else if (b >= 48 && b <= 57) {
                faulty(text, 1, 5);
            } else if (b == '(') {
                faulty(text, 1, 6);
            } else {
                faulty(text, 1, 3);
            }
        }
        Checks.says("<= >= < > = # + - * / ( ) ; (the longest)");
        String signs = "<>=#+-*/);";
        for (int b = 0; b < 256; b++) {
            String text = "falls 1" + (char) b + "1;";
            int place = signs.indexOf(b);
            if (b == 32 || b == 10) {
                faulty(text, 1, 8);
            } else if (b >= 48 && b <= 57) {
                faulty(text, 1, 9);
            } else if (place >= 0 && place < 4) {
                fine(text);
            } else if (place >= 4 && place < 8) {
                faulty(text, 1, 9);
            } else {
                faulty(text, 1, 7);
            }
        }
    }

    private static void numbers() {
        Checks.says("(NUMBERS, 0 .. 9999)");
        StatuesWhoOwe x = Checks.square(1, 1);
        x.put(0, 0);
        Checks.rule(x, "due 0; pays 9999 - 9000; birds 09999 / 11; price 0000;");
        due("0", x.of(0, 2), 0);
        due("9999", x.of(0, 3), 999);
        due("09999", x.of(0, 4), 909);
        faulty("due 10000;", 2, 4);
        faulty("due 00010000;", 2, 4);
        faulty("due 65536;", 2, 4);
        faulty("due 4294967296;", 2, 4);
        faulty("due 4294967297;", 2, 4);
        faulty("due 18446744073709551616;", 2, 4);
        faulty("due " + "1" + "0".repeat(290) + ";", 2, 4);
        faulty("pass 4294967297;", 2, 5);
        faulty("off 4294967296;", 2, 4);
    }

    private static void theLongest() {
        Checks.says("<= >= < > = # + - * / ( ) ; (the longest)");
        asked("1<=1", true);
        asked("1<1", false);
        asked("1>=1", true);
        asked("1>1", false);
        faulty("falls 1< =1;", 1, 9);
        faulty("falls 1> =1;", 1, 9);
        faulty("falls 1<\n=1;", 1, 9);
        faulty("falls 1=<1;", 1, 8);
        faulty("falls 1=>1;", 1, 8);
        faulty("falls 1==1;", 1, 8);
        faulty("falls 1<<1;", 1, 8);
        faulty("falls 1>>1;", 1, 8);
        faulty("falls 1<==1;", 1, 9);
        faulty("falls 1#=1;", 1, 8);
        faulty("du e 1;", 1, 0);
        faulty("due 1 0;", 1, 6);
        faulty("pass1 ;pass 1 1;", 1, 14);
        fine("pass1;");
        fine("put1on1;");
    }

    /** Whether head 3 (fame 3) on plinth 2 under the name 3 would fall. */
    private static void asked(String either, boolean want) {
        StatuesWhoOwe x = Checks.square(3, 4);
        x.put(3, 2);
        x.carve(2, 3);
        Checks.rule(x, "falls " + either + ";");
        due("falls " + either, x.of(2, 6), want ? 1 : 0);
    }

    private static void told(String sum, int want) {
        StatuesWhoOwe x = Checks.square(3, 4);
        x.put(3, 2);
        x.carve(2, 3);
        Checks.rule(x, "due " + sum + ";");
        due("due " + sum, x.of(2, 2), want);
    }

    private static void clauses() {
        Checks.says("{CLAUSE}, 24 at most");
        fine("");
        fine("off 0;".repeat(23));
        fine("off 0;".repeat(24));
        faulty("off 0;".repeat(25), 6, 144);
        fine("due 1;pays 1;birds 1;price 1;falls 1=1;" + "pass 1;".repeat(19));
        faulty("due 1;pays 1;birds 1;price 1;falls 1=1;" + "pass 1;".repeat(20), 6, 39 + 133);
        fine("put 0 on 0;".repeat(24));
        fine("off 0;".repeat(24) + " \n ");
    }

    private static void eachOnce() {
        Checks.says("(each once)");
        Checks.says("4 due, pays, birds, price, falls for the second time (at it).");
        for (String law : LAWS) {
            String clause = law + (law.equals("falls") ? " 1=1;" : " 1;");
            fine(clause);
            faulty(clause + clause, 4, clause.length());
            faulty(clause + "off 1; " + law, 4, clause.length() + 7);
        }
        fine("put 0 on 0;put 0 on 0;off 0;off 0;change 0 with 1;change 0 with 1;pass 1;pass 1;");
    }

    private static void wordsOfClauses() {
        Checks.says("or put NUMBER on NUMBER ; or off NUMBER ; or change NUMBER with NUMBER ; or pass NUMBER ;.");
        faulty("put 0 with 0;", 1, 6);
        faulty("change 0 on 0;", 1, 9);
        faulty("put 0 0;", 1, 6);
        faulty("put on 0;", 1, 4);
        faulty("put 0 on;", 1, 8);
        faulty("put 0 on 0 on 0;", 1, 11);
        faulty("off;", 1, 3);
        faulty("off 0 on 0;", 1, 6);
        faulty("off (0);", 1, 4);
        faulty("pass -1;", 1, 5);
        faulty("pass day;", 1, 5);
        faulty("pass 1+1;", 1, 6);
        faulty("; pass 1;", 1, 0);
        faulty("pass 1;;", 1, 7);
    }

    private static void faultOneAtTheEnd() {
        Checks.says("at the TOKEN's first byte (of the end at the length)");
        String[] parts = {"put", "1", "on", "2", ";"};
        StringBuilder text = new StringBuilder();
        for (int i = 0; i < 4; i++) {
            text.append(parts[i]).append(' ');
            faulty(text.toString().trim(), 1, text.length() - 1);
            faulty(text.toString(), 1, text.length());
            faulty(text + "\n\n ", 1, text.length() + 3);
        }
        faulty("due (1 + 2", 1, 10);
        faulty("falls 1 <", 1, 9);
        faulty("falls not", 1, 9);
        faulty("   due", 1, 6);
        faulty("   dux 1;", 1, 3);
        faulty("due 1 +\n\n 12x3;", 1, 12);
        faulty("due 1 +\n\n 99999;", 2, 10);
        faulty("due 1 + <= 2;", 1, 8);
    }

    private static void faultTwo() {
        Checks.says("(above 9999; HEADS 0 .. 11, PLINTHS 0 .. 7; of pass above 99)");
        fine("put 0 on 0;");
        fine("put 11 on 7;");
        faulty("put 12 on 7;", 2, 4);
        faulty("put 11 on 8;", 2, 10);
        fine("off 0;");
        fine("off 7;");
        faulty("off 8;", 2, 4);
        fine("change 7 with 7;");
        fine("change 0 with 0;");
        faulty("change 8 with 7;", 2, 7);
        faulty("change 7 with 8;", 2, 14);
        fine("pass 0;");
        fine("pass 1;");
        fine("pass 99;");
        faulty("pass 100;", 2, 5);
        faulty("put 9999 on 0;", 2, 4);
        faulty("put 10000 on 0;", 2, 4);
        for (String law : LAWS) {
            String asks = law.equals("falls") ? " = 0" : "";
            fine(law + " 9999" + asks + ";");
            faulty(law + " 10000" + asks + ";", 2, law.length() + 1);
            faulty(law + " (1 + -10000)" + asks + ";", 2, law.length() + 7);
        }
        faulty("falls 1 = 10000;", 2, 10);
    }

    private static void faultThreeOfOneKind() {
        Checks.says("3 the 9th of ( not and - (of one ONE) that are open around one another (at it).");
        for (int open = 7; open <= 10; open++) {
            String brackets = "due " + "(".repeat(open) + "1" + ")".repeat(open) + ";";
            String minus = "due " + "-".repeat(open) + "1;";
            String nots = "falls " + "not ".repeat(open) + "1=1;";
            if (open <= 8) {
                fine(brackets);
                fine(minus);
                fine(nots);
            } else {
                faulty(brackets, 3, 12);
                faulty(minus, 3, 12);
                faulty(nots, 3, 6 + 32);
            }
        }
        faulty("due 1-" + "-".repeat(9) + "1;", 3, 14);
        fine("due 1-" + "-".repeat(8) + "1;");
    }

    private static void faultThreeMixed() {
        fine("falls not not not (((--1))) = 0;");
        fine("falls not not not (((--1))) = ((-((1))));");
        faulty("falls not not not (((---1))) = 0;", 3, 23);
        faulty("falls not not not (((--(1)))) = 0;", 3, 23);
        faulty("falls not not not 1 = (((--(1))));", 3, 27);
        fine("falls not not not 1 = (((--1)));");
        fine("due (-(-(-(-1))));");
        faulty("due (-(-(-(-(1)))));", 3, 12);
        fine("due -(-(-(-(1))));");
        faulty("due -(-(-(-(-1))));", 3, 12);
        fine("price -(-(-(-(close))));");
        faulty("price -(-(-(-(-close))));", 3, 14);
    }

    private static void faultThreeSideBySide() {
        fine("due ((((((((1))))))))+((((((((1))))))))*--------1;");
        fine("due --------1---------1;");
        faulty("due --------1----------1;", 3, 22);
        fine("due (((((((-1)-(1)*-1)/-1)))));");
        fine("falls not not not not not not not not 1=1 and not not not not not not not not 1=1 or not 1=1;");
        fine("falls not 1=1 and ((((((((1))))))))=1;");
        faulty("falls 1=1 and not ((((((((1))))))))=1;", 3, 25);
        fine("falls not (((((((1)))))))=(((((((1)))))));");
        fine("falls not (((((((1)))))))=-------1;");
        faulty("falls not 1=--------1;", 3, 19);
    }

    private static void faultFive() {
        Checks.says("NAMES: plinth, shade, view, day in all; close (how many other PLINTHS are at 10 at most, x and y together) in price;");
        Checks.says("right (1: the NAME is the HEAD's number, else 0), owes (DEBT) in the others.");
        Checks.says("5 a NAME that isn't of that CLAUSE (at it).");
        String[] names = {"plinth", "shade", "view", "day", "close", "head", "fame", "name", "right", "owes"};
        for (String law : LAWS) {
            for (int i = 0; i < names.length; i++) {
                String asks = law.equals("falls") ? " = 0" : "";
                boolean ofPrice = law.equals("price");
                boolean known = i < 4 || i == 4 == ofPrice;
                String first = law + " " + names[i] + asks + ";";
                String later = law + " 1 + (2 * -" + names[i] + ")" + asks + ";";
                if (known) {
                    fine(first);
                    fine(later);
                } else {
                    faulty(first, 5, law.length() + 1);
                    faulty(later, 5, law.length() + 11);
                }
                faulty(law + " " + names[i] + "s" + asks + ";", 1, law.length() + 1);
            }
        }
        faulty("falls 0 = close;", 5, 10);
        faulty("due Plinth;", 1, 4);
    }

    private static void faultSix() {
        Checks.says("6 the 25th CLAUSE (at its first TOKEN).");
        String full = "pass 1;".repeat(24);
        fine(full);
        faulty(full + "pass 1;", 6, 168);
        faulty(full + "\n\noff", 6, 170);
        faulty(full + "put 99999", 6, 168);
        faulty(full + "change ?", 6, 168);
        for (String law : LAWS) {
            faulty(full + law, 6, 168);
        }
        faulty("pass 1;".repeat(23) + "pass ;pass 1;", 1, 166);
    }

    private static void theLeastOfOne() {
        Checks.says("of one the least: 1 it can't stand there, or is none.");
        String full = "due 1;" + "pass 1;".repeat(23);
        faulty(full + "due 1;", 4, 167);
        faulty(full + "on 1;", 1, 167);
        faulty(full + "?", 1, 167);
        faulty(full + "1", 1, 167);
        faulty("due 1 10000;", 1, 6);
        faulty("10000", 1, 0);
        faulty("put on 10000;", 1, 4);
        faulty("due 1 close;", 1, 6);
        faulty("pass close;", 1, 5);
        faulty("due ((((((((1(;", 1, 13);
        faulty("due ((((((((not 1;", 1, 12);
        faulty("due ((((((((;", 1, 12);
        faulty("falls not not not not not not not not 1 = not 1;", 1, 42);
        faulty("due 1; pays due;", 1, 12);
        faulty("due 1; pays 1 due 2;", 1, 14);
    }

    private static void theFirst() {
        Checks.says("FAULTS, the first as TOKENS are come to");
        faulty("due close + 10000;", 5, 4);
        faulty("due 10000 + close;", 2, 4);
        faulty("due 1 ? due 2;", 1, 6);
        faulty("due (((((((((10000;", 3, 12);
        faulty("due 1; due 10000;", 4, 7);
        faulty("due 10000; due 1;", 2, 4);
        faulty("put 12 with 8", 2, 4);
        faulty("put 11 with 8", 1, 7);
    }

    private static void faultAsked() {
        Checks.says("0 its FAULT (0 without), 1 its place (NONE without). NONE for others, and ahead of any.");
        StatuesWhoOwe x = Checks.square(1, 1);
        for (int what : new int[] {-1, 0, 1, 2, LOW, HIGH}) {
            due("ahead of any", x.fault(what), NONE);
        }
        due("a fault", Checks.read(x, " off"), NONE);
        due("fault(0)", x.fault(0), 1);
        due("fault(1)", x.fault(1), 4);
        for (int what : new int[] {-1, -2, 2, LOW, HIGH}) {
            due("others", x.fault(what), NONE);
        }
        due("no fault", Checks.read(x, " off 1;"), 0);
        due("fault(0)", x.fault(0), 0);
        due("fault(1)", x.fault(1), NONE);
        Checks.says("Of the latest text that was read");
        due("a fault at the first byte", Checks.read(x, "x"), NONE);
        due("fault(1)", x.fault(1), 0);
        Checks.feed(x, "off off");
        due("not read yet", x.fault(1), 0);
    }

    private static StatuesWhoOwe ruled(int texts) {
        StatuesWhoOwe x = Checks.square(1, 1);
        x.put(0, 0);
        for (int i = 0; i < texts; i++) {
            Checks.rule(x, "due " + (i + 5) + ";");
        }
        return x;
    }

    private static void by() {
        Checks.says("THE TEXT (NONE: none): true. False for others.");
        for (int texts : new int[] {0, 1, 4}) {
            for (int wrong : new int[] {-2, texts, texts + 1, LOW, HIGH}) {
                Checks.refused("by(" + wrong + ") of " + texts, () -> ruled(texts), x -> Checks.bit(x.by(wrong)), 0);
            }
            StatuesWhoOwe x = ruled(texts);
            for (int text = texts - 1; text >= 0; text--) {
                due("by(" + text + ")", x.by(text), true);
                due("it rules", x.of(0, 2), text + 5);
                due("about(5)", x.about(5), text);
            }
            due("none", x.by(NONE), true);
            due("none again", x.by(NONE), true);
            due("none rules", x.of(0, 2), 1);
            due("about(5)", x.about(5), NONE);
        }
        Checks.says("THE TEXT (told; at first none) rules.");
        StatuesWhoOwe x = Checks.square(1, 1);
        x.put(0, 0);
        Checks.read(x, "due 9;");
        due("at first", x.about(5), NONE);
        due("at first", x.of(0, 2), 1);
    }

    private static void playedOfOthers() {
        Checks.says("NONE: all is done; else the number of the CLAUSE that can't be. -2 for others.");
        for (int texts : new int[] {0, 1, 4}) {
            for (int wrong : new int[] {-1, -2, texts, texts + 1, LOW, HIGH}) {
                Checks.refused("played(" + wrong + ") of " + texts, () -> ruled(texts), x -> x.played(wrong), -2);
            }
        }
        StatuesWhoOwe x = ruled(4);
        due("the last", x.played(3), NONE);
        due("the first", x.played(0), NONE);
    }

    private static void playedToTheEnd() {
        Checks.says("PLAYED by a TEXT: its put, off, change and pass clauses, in their order, as by hand");
        StatuesWhoOwe x = Checks.square(3, 2);
        Checks.read(x, "pass 1;".repeat(24));
        due("24 clauses", x.played(0), NONE);
        due("day", x.about(2), 24);
        due("each is a step", x.about(6), 20);
        Checks.read(x, "falls 1 = 1; put 1 on 2; due 9; pass 2; change 2 with 0; off 0; put 0 on 0; pass 1;");
        StatuesWhoOwe y = Checks.square(3, 2);
        due("all", x.played(1), NONE);
        for (int i = 0; i < 24; i++) {
            y.pass(1);
        }
        y.put(1, 2);
        y.pass(2);
        y.change(2, 0);
        y.off(0);
        y.put(0, 0);
        y.pass(1);
        Checks.read(y, "");
        Checks.read(y, "");
        due("as by hand", Checks.everything(x).equals(Checks.everything(y)), true);
        StatuesWhoOwe z = Checks.square(2, 2);
        Checks.read(z, "");
        Checks.read(z, "due 1; falls 1 = 1;");
        due("no clauses", z.played(0), NONE);
        due("laws alone", z.played(1), NONE);
        due("no step", z.about(6), 0);
    }

    private static void playedUpToWhatCantBe() {
        Checks.says("one that can't be ends it: its number among all CLAUSES (from 0); what was done stays.");
        String[] cantBe = {"put 0 on 0;", "put 1 on 0;", "put 0 on 1;", "put 2 on 1;", "put 1 on 3;", "off 1;", "off 3;",
            "change 1 with 2;", "change 0 with 0;", "change 0 with 3;", "change 3 with 0;", "pass 0;"};
        for (String clause : cantBe) {
            StatuesWhoOwe x = Checks.square(3, 2);
            x.put(0, 0);
            Checks.read(x, clause + "pass 1;");
            Checks.read(x, "pass 1; due 3; " + clause + "pass 1;");
            due(clause + " at first", x.played(0), 0);
            due("none behind it is done", x.about(2), 0);
            due("no step", x.about(6), 1);
            due(clause + " behind others", x.played(1), 2);
            due("what was done stays", x.about(2), 1);
            due("a step", x.about(6), 2);
        }
        StatuesWhoOwe last = Checks.square(3, 2);
        Checks.read(last, "pass 1;".repeat(23) + "off 0;");
        due("the 24th", last.played(0), 23);
        due("day", last.about(2), 23);
        StatuesWhoOwe late = Checks.square(0, 0);
        Checks.read(late, "pass 99;pass 99;pass 99;pass 99;pass 99;pass 99;pass 99;pass 99;pass 99;pass 99;pass 9;pass 1;");
        due("beyond 999", late.played(0), 11);
        due("day", late.about(2), 999);
        due("at 999", late.played(0), 0);
    }

    private static void whatLawsTell() {
        Checks.says("What is told by due, pays, birds, price: 0 at least, 999 at most");
        int[] told = {-1000000, -1, 0, 1, 998, 999, 1000, 1000000};
        String[] sums = {"0-9999*9999", "-1", "0", "1", "998", "999", "1000", "9999*9999"};
        for (int i = 0; i < told.length; i++) {
            int want = Math.max(0, Math.min(999, told[i]));
            StatuesWhoOwe x = Checks.square(2, 1);
            x.put(0, 0);
            Checks.rule(x, "due " + sums[i] + ";pays " + sums[i] + ";birds " + sums[i] + ";price " + sums[i] + ";");
            due("due " + sums[i], x.of(0, 2), want);
            due("pays " + sums[i], x.of(0, 3), want);
            due("birds " + sums[i], x.of(0, 4), want);
            due("price " + sums[i], x.of(1, 5), want);
            x.pass(1);
            due("purse of pays and price", x.about(3), 2 * want);
            due("debt of due", x.headOf(0, 1), want);
        }
        asked("1000 * 1000 > 999", true);
        asked("-1 < 0", true);
    }

    private static void withoutLaws() {
        Checks.says("without: due 1, pays 0, birds 0, price 0; falls without: not.");
        String[] laws = {"due 7;", "pays 7;", "birds 7;", "price 7;", "falls 0 = 0;"};
        int[] without = {1, 0, 0, 0, 0};
        int[] with = {7, 7, 7, 7, 1};
        for (int only = -1; only < 5; only++) {
            StatuesWhoOwe x = Checks.square(2, 1);
            x.put(0, 0);
            Checks.rule(x, only < 0 ? "" : laws[only]);
            for (int law = 0; law < 5; law++) {
                int plinth = law == 3 ? 1 : 0;
                due("law " + law + " with " + only, x.of(plinth, law + 2), law == only ? with[law] : without[law]);
            }
        }
    }

    private static void held() {
        Checks.says("what is above 1000000 (below the same less) is that, at each step");
        told("1000*1000-999*1000-900", 100);
        told("1000*1000-1-999*1000-900", 99);
        told("1000*1000+1-999*1000-900", 100);
        told("1000*1000+9999-999*1000-900", 100);
        told("9999*9999-999*1000-900", 100);
        told("1001*1000-999*1000-900", 100);
        told("0-1000*1000+999*1000+1100", 100);
        told("0-1000*1000+1+999*1000+1100", 101);
        told("0-1000*1000-1+999*1000+1100", 100);
        told("0-9999*9999-9999+999*1000+1100", 100);
        told("(0-1001)*1000+999*1000+1100", 100);
        told("1001*(0-1000)+999*1000+1100", 100);
        told("--(9999*9999)-999*1000-900", 100);
        told("-(9999*9999)+999*1000+1100", 100);
        told("9999*9999*(9999*9999)-999*1000-900", 100);
        told("9999*9999*-(9999*9999)+999*1000+1100", 100);
        told("9999*9999+9999*9999-999*1000-900", 100);
        told("(0-9999*9999)-9999*9999+999*1000+1100", 100);
        told("9999*9999/9999*9", 900);
        told("9999*9999-(0-9999*9999)-999*1000-900", 100);
    }

    private static void divided() {
        Checks.says("From the left; / cuts towards 0, by 0 it is 0");
        told("7/2", 3);
        told("10+-7/2", 7);
        told("10+7/-2", 7);
        told("-7/-2", 3);
        told("10+-1/2", 10);
        told("1/2+10", 10);
        told("7/0", 0);
        told("7+-7/0", 7);
        told("7+0/0", 7);
        told("7/(1-1)+5", 5);
        told("100/10/5", 2);
        told("100/10*5", 50);
        told("100-10-5", 85);
        told("100-10+5", 95);
        told("7/8*8", 0);
        told("1000*1000/-(1000*1000)+2", 1);
        Checks.says("SUM: PRODUCT {+ or - PRODUCT}. PRODUCT: ONE {* or / ONE}. ONE: NUMBER, NAME, ( SUM ), - ONE.");
        told("10+2*-3", 4);
        told("10--3*2", 16);
        told("-(2-5)*2", 6);
        told("-2*-3", 6);
        told("2+3*4-10/5", 12);
        // As much as can wait for its other side at once.
        String deep = "1+1*(".repeat(8) + "1+1*1" + ")".repeat(8);
        told(deep, 10);
        asked("0=1 or 1=1 and 1*9<" + deep, true);
        asked("0=1 or 1=1 and 1*10<" + deep, false);
        asked("0=1 or 1=1 and 1+1*9=" + deep, true);
    }

    private static int priceOfClose(int[]... places) {
        StatuesWhoOwe x = new StatuesWhoOwe();
        for (int[] place : places) {
            x.plinth(place[0], place[1], 0, 0);
        }
        Checks.rule(x, "price close;");
        return x.of(0, 5);
    }

    private static void close() {
        Checks.says("close (how many other PLINTHS are at 10 at most, x and y together)");
        int[] at = {50, 50};
        due("alone", priceOfClose(at), 0);
        int[][] near = {{50, 50}, {60, 50}, {40, 50}, {50, 60}, {50, 40}, {55, 55}, {45, 45}, {59, 49}, {41, 51}};
        for (int[] other : near) {
            due("near " + other[0] + ", " + other[1], priceOfClose(at, other), 1);
        }
        int[][] far = {{61, 50}, {39, 50}, {50, 61}, {50, 39}, {56, 55}, {44, 45}, {60, 49}, {40, 51}};
        for (int[] other : far) {
            due("far " + other[0] + ", " + other[1], priceOfClose(at, other), 0);
        }
        due("seven others", priceOfClose(at, at, at, at, at, at, at, at), 7);
        due("at the edges", priceOfClose(new int[] {0, 0}, new int[] {99, 99}), 0);
        StatuesWhoOwe x = Checks.square(3, 1);
        Checks.rule(x, "price close;");
        due("the middle one", x.of(1, 5), 2);
        x.put(0, 0);
        due("with a head as well", x.of(1, 5), 2);
        x.plinth(15, 0, 0, 0);
        due("one told later", x.of(1, 5), 3);
        due("one told later", x.of(3, 5), 2);
    }

    private static void namesAndRight() {
        Checks.says("head, fame, name (-1: none), right (1: the NAME is the HEAD's number, else 0), owes (DEBT)");
        StatuesWhoOwe x = Checks.square(8, 12);
        x.put(0, 0);
        x.put(11, 7);
        Checks.rule(x, "due name + 1; pays right; birds head; price plinth*100+shade*10+view;");
        due("no name", x.of(0, 2), 0);
        due("not right without a name", x.of(0, 3), 0);
        x.carve(0, 0);
        due("the name 0", x.of(0, 2), 1);
        due("right", x.of(0, 3), 1);
        x.carve(0, 11);
        due("the name 11", x.of(0, 2), 12);
        due("not right", x.of(0, 3), 0);
        x.carve(7, 11);
        due("right", x.of(7, 3), 1);
        due("head 0", x.of(0, 4), 0);
        due("head 11", x.of(7, 4), 11);
        due("plinth 1", x.of(1, 5), 118);
        StatuesWhoOwe y = Checks.square(2, 1);
        Checks.rule(y, "due 999; price day;");
        y.put(0, 0);
        y.pass(99);
        due("the last day's price", y.about(3), 98 * 99 / 2);
        due("owes much", y.headOf(0, 1), 999 * 99);
        Checks.rule(y, "due owes / 999;");
        due("owes", y.of(0, 2), 99);
    }

    private static void asks() {
        Checks.says("ASK: not ASK, or SUM one of < <= > >= = # (unlike) SUM.");
        String[] signs = {"<", "<=", ">", ">=", "=", "#"};
        boolean[][] want = {{true, false, false}, {true, true, false}, {false, false, true}, {false, true, true},
            {false, true, false}, {true, false, true}};
        for (int i = 0; i < signs.length; i++) {
            for (int left = 2; left <= 4; left++) {
                asked(left + signs[i] + "fame", want[i][left - 2]);
                asked("not " + left + signs[i] + "fame", !want[i][left - 2]);
            }
        }
        Checks.says("EITHER: BOTH {or BOTH}. BOTH: ASK {and ASK}.");
        for (int code = 0; code < 8; code++) {
            String a = (code & 1) + "=1";
            String b = (code >> 1 & 1) + "=1";
            String c = (code >> 2 & 1) + "=1";
            boolean p = (code & 1) != 0;
            boolean q = (code & 2) != 0;
            boolean r = (code & 4) != 0;
            asked(a + " or " + b + " and " + c, p || q && r);
            asked(a + " and " + b + " or " + c, p && q || r);
            asked("not " + a + " or " + b, !p || q);
            asked("not " + a + " and not " + b + " and not " + c, !(p || q || r));
            asked(a + " or " + b + " or " + c, p || q || r);
        }
    }
}
