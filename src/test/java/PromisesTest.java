/** Each promise of the document by hand: ordinary inputs, the edges that it names, and wrong inputs. */
public final class PromisesTest {
    private static final int NONE = -1;
    private static final int LOW = Integer.MIN_VALUE;
    private static final int HIGH = Integer.MAX_VALUE;
    private static int wrong = 0;
    private static int promise = 0;

    public static void main(String[] args) {
        newObject();
        plinth();
        head();
        put();
        off();
        change();
        carve();
        pay();
        pass();
        feed();
        end();
        text();
        faultOne();
        faultsTwoAndFive();
        faultThree();
        faultsFourAndSix();
        by();
        played();
        undo();
        of();
        laws();
        headOf();
        best();
        seen();
        forget();
        fewest();
        who();
        stood();
        longest();
        tour();
        rounds();
        revolution();
        image();
        back();
        about();
        System.out.println(wrong == 0 ? "all promises hold" : wrong + " answers are not as promised");
        if (wrong != 0) {
            System.exit(1);
        }
    }

    private static void due(String call, int got, int want) {
        if (got != want) {
            wrong++;
            System.out.println("promise " + promise + ": " + call + " answered " + got + ", due is " + want);
        }
    }

    private static void due(String call, boolean got, boolean want) {
        due(call, got ? 1 : 0, want ? 1 : 0);
    }

    /** Plinths at (0, 0), (10, 0), (20, 0), .. of shade 0 .. and view 9 .. */
    private static StatuesWhoOwe square(int plinths, int heads) {
        StatuesWhoOwe x = new StatuesWhoOwe();
        for (int i = 0; i < plinths; i++) {
            due("plinth", x.plinth(10 * i, 0, i, 9 - i), i);
        }
        for (int i = 0; i < heads; i++) {
            due("head", x.head(i % 10, i % 4), i);
        }
        return x;
    }

    private static void feed(StatuesWhoOwe x, String text) {
        int length = x.about(8) + text.length();
        for (int at = 0; at < text.length(); at += 20) {
            int[] five = new int[5];
            for (int i = 0; i < 20; i++) {
                five[i / 4] = five[i / 4] << 8 | (at + i < text.length() ? text.charAt(at + i) : ' ');
            }
            x.feed(five[0], five[1], five[2], five[3], five[4]);
        }
        due("end of " + text, x.end(length), length);
    }

    private static int read(StatuesWhoOwe x, String text) {
        feed(x, text);
        return x.text();
    }

    private static void rule(StatuesWhoOwe x, String text) {
        int number = read(x, text);
        due("text() of " + text, number >= 0, true);
        due("by", x.by(number), true);
    }

    private static void faulty(String text, int fault, int place) {
        StatuesWhoOwe x = new StatuesWhoOwe();
        due("text() of " + text, read(x, text), NONE);
        due("fault(0) of " + text, x.fault(0), fault);
        due("fault(1) of " + text, x.fault(1), place);
        due("tape behind " + text, x.about(8), 0);
        due("texts behind " + text, x.about(4), 0);
    }

    private static void fine(String text) {
        StatuesWhoOwe x = new StatuesWhoOwe();
        due("text() of " + text, read(x, text), 0);
        due("fault(0) of " + text, x.fault(0), 0);
        due("fault(1) of " + text, x.fault(1), NONE);
    }

    /** What due tells of head 3 (fame 3) on plinth 2 (shade 2, view 7) under the name 3. */
    private static void reckons(String sum, int want) {
        StatuesWhoOwe x = square(3, 4);
        x.put(3, 2);
        x.carve(2, 3);
        rule(x, "due " + sum + ";");
        due("due " + sum, x.of(2, 2), want);
    }

    private static void asks(String either, boolean want) {
        StatuesWhoOwe x = square(3, 4);
        x.put(3, 2);
        x.carve(2, 3);
        rule(x, "falls " + either + ";");
        due("falls " + either, x.of(2, 6), want ? 1 : 0);
    }

    private static void newObject() {
        promise = 1;
        StatuesWhoOwe x = new StatuesWhoOwe();
        int[] want = {0, 0, 0, 0, 0, NONE, 0, 0, 0, 0, -2, -2};
        for (int what = 0; what < want.length; what++) {
            due("about(" + what + ")", x.about(what), want[what]);
        }
        due("NONE", StatuesWhoOwe.NONE, -1);
        x.plinth(1, 1, 1, 1);
        x.head(1, 1);
        x.put(0, 0);
        due("back()", x.back(), 0);
        due("about(0)", x.about(0), 0);
        due("about(1)", x.about(1), 0);
        due("about(6)", x.about(6), 0);
        due("undo()", x.undo(), NONE);
    }

    private static void plinth() {
        promise = 2;
        StatuesWhoOwe x = new StatuesWhoOwe();
        int[][] others = {{-1, 0, 0, 0}, {100, 0, 0, 0}, {0, -1, 0, 0}, {0, 100, 0, 0}, {0, 0, -1, 0}, {0, 0, 10, 0},
            {0, 0, 0, -1}, {0, 0, 0, 10}, {LOW, 0, 0, 0}, {0, HIGH, 0, 0}};
        for (int[] o : others) {
            due("plinth of others", x.plinth(o[0], o[1], o[2], o[3]), NONE);
        }
        due("plinth(99, 99, 9, 9)", x.plinth(99, 99, 9, 9), 0);
        due("plinth there again", x.plinth(99, 99, 9, 9), 1);
        for (int i = 2; i < 8; i++) {
            due("plinth", x.plinth(0, i, 0, 0), i);
        }
        due("the ninth", x.plinth(0, 0, 0, 0), NONE);
        due("about(0)", x.about(0), 8);
        due("no step", x.about(6), 0);
    }

    private static void head() {
        promise = 3;
        StatuesWhoOwe x = new StatuesWhoOwe();
        due("head(-1, 0)", x.head(-1, 0), NONE);
        due("head(10, 0)", x.head(10, 0), NONE);
        due("head(0, -1)", x.head(0, -1), NONE);
        due("head(0, 4)", x.head(0, 4), NONE);
        due("head(high)", x.head(HIGH, LOW), NONE);
        for (int i = 0; i < 12; i++) {
            due("head", x.head(9, 3), i);
        }
        due("the 13th", x.head(0, 0), NONE);
        due("about(1)", x.about(1), 12);
        due("no step", x.about(6), 0);
    }

    private static void put() {
        promise = 4;
        StatuesWhoOwe x = square(2, 3);
        due("put(3, 0)", x.put(3, 0), false);
        due("put(-1, 0)", x.put(-1, 0), false);
        due("put(0, 2)", x.put(0, 2), false);
        due("put(0, -1)", x.put(0, -1), false);
        due("put(high, low)", x.put(HIGH, LOW), false);
        due("no step", x.about(6), 0);
        due("put(1, 0)", x.put(1, 0), true);
        due("of(0, 0)", x.of(0, 0), 1);
        due("a step", x.about(6), 1);
        due("again", x.put(1, 0), false);
        due("the head elsewhere", x.put(1, 1), false);
        due("another on it", x.put(2, 0), false);
        due("no step more", x.about(6), 1);
    }

    private static void off() {
        promise = 5;
        StatuesWhoOwe x = square(2, 2);
        x.put(1, 0);
        due("off(1)", x.off(1), NONE);
        due("off(2)", x.off(2), NONE);
        due("off(-1)", x.off(-1), NONE);
        due("off(low)", x.off(LOW), NONE);
        due("steps", x.about(6), 1);
        due("off(0)", x.off(0), 1);
        due("steps", x.about(6), 2);
        due("headOf(1, 0)", x.headOf(1, 0), NONE);
        due("off(0) again", x.off(0), NONE);
        due("put elsewhere", x.put(1, 1), true);
    }

    private static void change() {
        promise = 6;
        StatuesWhoOwe x = square(3, 2);
        due("both without", x.change(0, 1), false);
        x.put(0, 0);
        due("with itself", x.change(0, 0), false);
        due("others", x.change(0, 3), false);
        due("others", x.change(-1, 0), false);
        due("others", x.change(HIGH, LOW), false);
        due("one without", x.change(1, 0), true);
        due("of(0, 0)", x.of(0, 0), NONE);
        due("of(1, 0)", x.of(1, 0), 0);
        x.put(1, 2);
        x.carve(2, 7);
        due("both with", x.change(1, 2), true);
        due("of(1, 0)", x.of(1, 0), 1);
        due("of(2, 0)", x.of(2, 0), 0);
        due("the name stays", x.of(2, 1), 7);
        due("steps", x.about(6), 5);
    }

    private static void carve() {
        promise = 7;
        StatuesWhoOwe x = square(2, 0);
        due("none on none", x.carve(0, NONE), false);
        due("a head not told", x.carve(0, 11), true);
        due("of(0, 1)", x.of(0, 1), 11);
        due("again", x.carve(0, 11), false);
        due("on another as well", x.carve(1, 11), true);
        due("12", x.carve(0, 12), false);
        due("-2", x.carve(0, -2), false);
        due("no plinth", x.carve(2, 0), false);
        due("no plinth", x.carve(-1, 0), false);
        due("odd", x.carve(0, HIGH), false);
        due("none", x.carve(0, NONE), true);
        due("of(0, 1)", x.of(0, 1), NONE);
        due("steps", x.about(6), 3);
    }

    private static void pay() {
        promise = 8;
        StatuesWhoOwe x = square(2, 2);
        x.put(0, 0);
        rule(x, "due 5; price 3;");
        x.pass(2);
        due("purse", x.about(3), 6);
        due("debt", x.headOf(0, 1), 10);
        due("0", x.pay(0, 0), NONE);
        due("below", x.pay(0, -1), NONE);
        due("beyond the purse", x.pay(0, 7), NONE);
        due("beyond the debt", x.pay(1, 1), NONE);
        due("no head", x.pay(2, 1), NONE);
        due("no head", x.pay(-1, 1), NONE);
        due("odd", x.pay(0, LOW), NONE);
        due("steps", x.about(6), 2);
        due("one", x.pay(0, 1), 9);
        x.undo();
        due("all of the purse", x.pay(0, 6), 4);
        due("purse", x.about(3), 0);
        due("steps", x.about(6), 3);
        due("undo", x.undo(), 2);
        due("purse", x.about(3), 6);
        due("debt", x.headOf(0, 1), 10);
        StatuesWhoOwe y = square(2, 1);
        y.put(0, 0);
        rule(y, "due 999; price 999;");
        y.pass(12);
        due("above 9999", y.pay(0, 10000), NONE);
        due("9999", y.pay(0, 9999), 12 * 999 - 9999);
        due("all of the debt", y.pay(0, 12 * 999 - 9999), 0);
    }

    private static void pass() {
        promise = 9;
        StatuesWhoOwe x = square(0, 0);
        due("0", x.pass(0), NONE);
        due("-1", x.pass(-1), NONE);
        due("100", x.pass(100), NONE);
        due("high", x.pass(HIGH), NONE);
        due("low", x.pass(LOW), NONE);
        due("no step", x.about(6), 0);
        for (int i = 1; i <= 10; i++) {
            due("99", x.pass(99), 99 * i);
        }
        due("beyond 999", x.pass(10), NONE);
        due("to 999", x.pass(9), 999);
        due("beyond", x.pass(1), NONE);
        due("steps", x.about(6), 11);
        passInOrder();
    }

    private static void passInOrder() {
        StatuesWhoOwe x = square(3, 2);
        x.put(0, 0);
        x.put(1, 2);
        x.carve(2, 1);
        // Pays and due look at the debt ahead of the day, falls at that behind it and at the same day.
        rule(x, "due owes + 1; pays owes * 2 + right; price plinth + day; falls owes = 3 and day = 1;");
        due("one day", x.pass(1), 1);
        due("purse", x.about(3), 0 + 1 + 1);
        due("debt", x.headOf(0, 1), 1);
        due("still there", x.of(0, 0), 0);
        due("would fall", x.of(0, 6), 0);
        due("another day", x.pass(1), 2);
        due("purse", x.about(3), 2 + 2 + 2 + 3);
        due("debt", x.headOf(1, 1), 3);
        due("fallen", x.of(0, 0), NONE);
        due("fallen", x.of(2, 0), NONE);
        due("the name stays", x.of(2, 1), 1);
        due("several days", x.pass(2), 4);
        due("purse", x.about(3), 9 + (2 + 3 + 4) + (3 + 4 + 5));
        due("stood", x.stood(0, NONE), 2);
        due("undo is of all", x.undo(), 5);
        due("day", x.about(2), 2);
        due("undo", x.undo(), 4);
        due("back on", x.of(2, 0), 1);
        due("stood", x.stood(1, 1), 1);
        due("debts", x.about(9), 2);
        StatuesWhoOwe y = square(1, 1);
        y.put(0, 0);
        rule(y, "falls owes > 1;");
        due("falls amid the days", y.pass(50), 50);
        due("debt", y.headOf(0, 1), 2);
        due("stood", y.stood(0, NONE), 2);
    }

    private static void feed() {
        promise = 10;
        StatuesWhoOwe x = new StatuesWhoOwe();
        for (int i = 1; i <= 15; i++) {
            due("feed", x.feed(-1, 0, LOW, HIGH, 1), 20 * i);
        }
        due("a 301st", x.feed(0, 0, 0, 0, 0), NONE);
        due("about(8)", x.about(8), 300);
        x.end(281);
        due("a 301st", x.feed(0, 0, 0, 0, 0), NONE);
        x.end(280);
        due("300", x.feed(0, 0, 0, 0, 0), 300);
        // "due 1;pays 2;birds 3;" in order, the highest byte first.
        StatuesWhoOwe y = square(1, 1);
        y.put(0, 0);
        due("feed", y.feed(0x64756520, 0x313b7061, 0x79732032, 0x3b626972, 0x64732037), 20);
        due("feed", y.feed(0x3b202020, 0x20202020, 0x20202020, 0x20202020, 0x20202020), 40);
        due("text()", y.text(), 0);
        y.by(0);
        due("due", y.of(0, 2), 1);
        due("pays", y.of(0, 3), 2);
        due("birds", y.of(0, 4), 7);
    }

    private static void end() {
        promise = 11;
        StatuesWhoOwe x = new StatuesWhoOwe();
        due("end(0)", x.end(0), 0);
        due("end(1)", x.end(1), NONE);
        due("end(-1)", x.end(-1), NONE);
        x.feed(0, 0, 0, 0, 0);
        due("end(21)", x.end(21), NONE);
        due("end(high)", x.end(HIGH), NONE);
        due("end(low)", x.end(LOW), NONE);
        due("about(8)", x.about(8), 20);
        due("end(20)", x.end(20), 20);
        due("end(3)", x.end(3), 3);
        due("end(4)", x.end(4), NONE);
        due("about(8)", x.about(8), 3);
        due("feed", x.feed(0, 0, 0, 0, 0), 23);
    }

    private static void text() {
        promise = 12;
        StatuesWhoOwe x = new StatuesWhoOwe();
        due("an empty tape", x.text(), 0);
        due("blanks", read(x, " \n \n"), 1);
        due("a fault", read(x, "due"), NONE);
        due("third", read(x, "pass 1;"), 2);
        due("fourth", read(x, "due 1 ; falls 1 < 2;"), 3);
        due("about(4)", x.about(4), 4);
        feed(x, "due;");
        due("a fifth", x.text(), NONE);
        due("the tape stays", x.about(8), 4);
        due("it was not read", x.fault(0), 0);
        x.back();
        due("the tape stays", x.about(8), 4);
        due("now it is read", x.text(), NONE);
        due("its fault", x.fault(0), 1);
        due("gone", x.about(8), 0);
        fine("due 0000000000012;put 11 on 7;off 07;change 0 with 7;pass 99;pass 0;");
        fine("due(1)-(-2)*plinth/shade+view-day;pays head+fame*name-right/owes;birds 9999;price close;");
        fine("falls not 1<2 and 1<=2 or not not 1>2 and 1>=2 or 1=2 and 1#2;");
        fine("due\n1\n;");
        fine("due1;pays2;");
        StringBuilder longest = new StringBuilder("due 1");
        while (longest.length() < 299) {
            longest.append("+1");
        }
        fine(longest.append(';').toString());
    }

    private static void faultOne() {
        promise = 13;
        StatuesWhoOwe x = new StatuesWhoOwe();
        due("ahead of any", x.fault(0), NONE);
        due("ahead of any", x.fault(1), NONE);
        due("without", read(x, ""), 0);
        due("without", x.fault(0), 0);
        due("without", x.fault(1), NONE);
        due("others", x.fault(2), NONE);
        due("others", x.fault(-1), NONE);
        due("others", x.fault(HIGH), NONE);
        faulty("due", 1, 3);
        faulty("due  \n", 1, 6);
        faulty("due 1", 1, 5);
        faulty("dues 1;", 1, 0);
        faulty("Due 1;", 1, 0);
        faulty("duea 1;", 1, 0);
        faulty("duez 1;", 1, 0);
        faulty("dueA 1;", 1, 0);
        faulty("dueZ 1;", 1, 0);
        faulty("due@1;", 1, 3);
        faulty("due[1;", 1, 3);
        faulty("due`1;", 1, 3);
        faulty("due{1;", 1, 3);
        faulty("due 1:", 1, 5);
        faulty("due 1!;", 1, 5);
        faulty("falls 1 => 2;", 1, 9);
        faulty("falls 1 <> 2;", 1, 9);
        faulty("falls 1 <=> 2;", 1, 10);
        faulty("due;1", 1, 3);
        faulty(" ; ", 1, 1);
        faulty("due 1 2;", 1, 6);
        faulty("due 1+;", 1, 6);
        faulty("due 1 < 2;", 1, 6);
        faulty("due (1;", 1, 6);
        faulty("due 1);", 1, 5);
        faulty("due not 1;", 1, 4);
        faulty("due 1\t;", 1, 5);
        faulty("due ?;", 1, 4);
        faulty("due \u00ff;", 1, 4);
        faulty("due due;", 1, 4);
        faulty("due 1; x", 1, 7);
        faulty("falls 1;", 1, 7);
        faulty("falls 1 < 2 < 3;", 1, 12);
        faulty("falls (1 < 2);", 1, 9);
        faulty("falls 1 < 2 or;", 1, 14);
        faulty("falls 1 and 2;", 1, 8);
        faulty("falls 1 < not 2;", 1, 10);
        faulty("falls 1 < = 2;", 1, 10);
        faulty("falls -not 1 < 2;", 1, 7);
        faulty("put 1 with 2;", 1, 6);
        faulty("put 1 on 2 ", 1, 11);
        faulty("change 1 on 2;", 1, 9);
        faulty("off head;", 1, 4);
        faulty("off -1;", 1, 4);
        faulty("pass 1 on 2;", 1, 7);
        faulty("pass;", 1, 4);
        faulty("due 1 close;", 1, 6);
        faulty("due 1 10000;", 1, 6);
        faulty("10000", 1, 0);
    }

    private static void faultsTwoAndFive() {
        faulty("due 10000;", 2, 4);
        faulty("due 1+99999999999999999999;", 2, 6);
        faulty("put 12 on 0;", 2, 4);
        faulty("put 0 on 8;", 2, 9);
        faulty("put 12 on 8 x", 2, 4);
        faulty("off 8;", 2, 4);
        faulty("change 8 with 0;", 2, 7);
        faulty("change 0 with 8;", 2, 14);
        faulty("pass 100;", 2, 5);
        faulty("pass 10000;", 2, 5);
        faulty("due close;", 5, 4);
        faulty("pays close;", 5, 5);
        faulty("birds close;", 5, 6);
        faulty("falls close < 1;", 5, 6);
        for (String name : new String[] {"head", "fame", "name", "right", "owes"}) {
            faulty("price 1 + " + name + ";", 5, 10);
            fine("due " + name + "; pays " + name + "; birds " + name + "; falls 1 < " + name + ";");
        }
        fine("due day; pays view; birds shade; price plinth+shade+view+day+close; falls plinth < 1;");
    }

    private static void faultThree() {
        fine("due ((((((((1))))))));");
        faulty("due (((((((((1)))))))));", 3, 12);
        fine("due --------1;");
        faulty("due ---------1;", 3, 12);
        fine("due ((((----1))))-((((----1))));");
        faulty("due ((((-----1))));", 3, 12);
        faulty("due (-(-(-(-(-1))));", 3, 12);
        fine("falls not not not not not not not not 1 < 2;");
        faulty("falls not not not not not not not not not 1 < 2;", 3, 38);
        fine("falls not not ((((((1)))))) < ------2 and not not 1 < 2;");
        faulty("falls not not ((((((1)))))) < -------2;", 3, 36);
        fine("falls not 1 < 2 or not 1 < 2 and not 1 < (((((((2)))))));");
        fine("falls 1 < 2 and ((((((((1)))))))) < 2;");
        fine("due 1 - 1 - 1 - 1 - 1 - 1 - 1 - 1 - 1 - 1;");
        faulty("due ((((((((;", 1, 12);
    }

    private static void faultsFourAndSix() {
        faulty("due 1; due 1;", 4, 7);
        faulty("pays 1; due 1; pays ?;", 4, 15);
        faulty("birds 1; birds 1;", 4, 9);
        faulty("price 1; price 1;", 4, 9);
        faulty("falls 1<1; falls 1<1;", 4, 11);
        fine("pass 1; pass 1; off 1; off 1; put 1 on 1; put 1 on 1; change 1 with 2; change 1 with 2;");
        String full = "pass 1;".repeat(24);
        fine(full);
        faulty(full + " pass 1;", 6, 169);
        faulty(full + "due ?", 6, 168);
        faulty(full + "on", 1, 168);
        String withDue = "due 1;" + "pass 1;".repeat(23);
        fine(withDue);
        faulty(withDue + "due 1;", 4, 167);
        faulty(withDue + "pays 1;", 6, 167);
    }

    private static void by() {
        promise = 14;
        StatuesWhoOwe x = square(1, 1);
        x.put(0, 0);
        due("by(0)", x.by(0), false);
        read(x, "due 7;");
        due("none rules yet", x.of(0, 2), 1);
        due("by(0)", x.by(0), true);
        due("about(5)", x.about(5), 0);
        due("of(0, 2)", x.of(0, 2), 7);
        due("by(1)", x.by(1), false);
        due("by(-2)", x.by(-2), false);
        due("by(high)", x.by(HIGH), false);
        due("it still rules", x.about(5), 0);
        due("again", x.by(0), true);
        due("by(NONE)", x.by(NONE), true);
        due("about(5)", x.about(5), NONE);
        due("of(0, 2)", x.of(0, 2), 1);
        due("no step", x.about(6), 1);
    }

    private static void played() {
        promise = 15;
        StatuesWhoOwe x = square(3, 2);
        due("others", x.played(0), -2);
        due("others", x.played(NONE), -2);
        due("others", x.played(HIGH), -2);
        read(x, "due 9; put 1 on 0; pass 2; falls 1 = 1; change 0 with 2; off 2; put 1 on 1;");
        due("all", x.played(0), NONE);
        due("of(1, 0)", x.of(1, 0), 1);
        due("day", x.about(2), 2);
        due("the laws are of the text that rules", x.headOf(1, 1), 2);
        due("a step each", x.about(6), 5);
        due("again", x.played(0), 1);
        read(x, "pass 1; due 1; pass 0; pass 1;");
        due("pass 0", x.played(1), 2);
        due("what was done stays", x.about(2), 3);
        read(x, "off 1; off 0;");
        due("off none", x.played(2), 1);
        due("it stays", x.of(1, 0), NONE);
        read(x, "due 1;");
        due("nothing to do", x.played(3), NONE);
        StatuesWhoOwe y = square(2, 1);
        read(y, "change 0 with 1;");
        read(y, "put 0 on 7;");
        read(y, "put 11 on 0;");
        read(y, "put 0 on 0; change 0 with 0;");
        due("none to change", y.played(0), 0);
        due("a plinth not told", y.played(1), 0);
        due("a head not told", y.played(2), 0);
        due("with itself", y.played(3), 1);
        due("others", y.played(4), -2);
    }

    private static void undo() {
        promise = 16;
        StatuesWhoOwe x = square(2, 2);
        due("none", x.undo(), NONE);
        x.put(0, 0);
        x.carve(0, 5);
        x.change(0, 1);
        x.off(1);
        x.put(1, 0);
        rule(x, "price 9; due 2;");
        x.pass(3);
        x.pay(1, 2);
        x.plinth(50, 50, 1, 1);
        x.head(5, 3);
        x.put(2, 2);
        x.carve(2, 4);
        x.pass(1);
        due("steps", x.about(6), 10);
        due("undo pass", x.undo(), 9);
        due("day", x.about(2), 3);
        due("stood", x.stood(2, 4), 0);
        x.undo();
        due("undo put", x.undo(), 7);
        due("the head is told still", x.headOf(2, 0), NONE);
        due("the plinth as well", x.about(0), 3);
        due("undo pay", x.undo(), 6);
        due("debt", x.headOf(1, 1), 6);
        due("purse", x.about(3), 27);
        due("undo pass", x.undo(), 5);
        due("purse", x.about(3), 0);
        due("the text rules still", x.about(5), 0);
        x.undo();
        due("undo off", x.undo(), 3);
        due("of(1, 0)", x.of(1, 0), 0);
        due("undo change", x.undo(), 2);
        due("of(0, 0)", x.of(0, 0), 0);
        due("undo carve", x.undo(), 1);
        due("of(0, 1)", x.of(0, 1), NONE);
        due("undo put", x.undo(), 0);
        due("of(0, 0)", x.of(0, 0), NONE);
        due("none", x.undo(), NONE);
        for (int i = 1; i <= 25; i++) {
            x.pass(1);
            due("20 at most", x.about(6), Math.min(i, 20));
        }
        for (int i = 19; i >= 0; i--) {
            due("undo", x.undo(), i);
        }
        due("no more", x.undo(), NONE);
        due("day", x.about(2), 5);
    }

    private static void of() {
        promise = 17;
        StatuesWhoOwe x = square(2, 3);
        x.put(2, 0);
        x.carve(0, 2);
        int[] without = {2, 2, 1, 0, 0, 0, 0};
        int[] empty = {NONE, NONE, 0, 0, 0, 0, 0};
        for (int what = 0; what < 7; what++) {
            due("of(0, " + what + ")", x.of(0, what), without[what]);
            due("of(1, " + what + ")", x.of(1, what), empty[what]);
        }
        rule(x, "due 5; pays 6; birds 7; price 8; falls 1 = 1;");
        int[] with = {2, 2, 5, 6, 7, 0, 1};
        int[] ruled = {NONE, NONE, 0, 0, 0, 8, 0};
        for (int what = 0; what < 7; what++) {
            due("of(0, " + what + ")", x.of(0, what), with[what]);
            due("of(1, " + what + ")", x.of(1, what), ruled[what]);
        }
        due("others", x.of(0, 7), -2);
        due("others", x.of(0, -1), -2);
        due("others", x.of(2, 0), -2);
        due("others", x.of(-1, 0), -2);
        due("others", x.of(HIGH, LOW), -2);
        StatuesWhoOwe y = square(1, 1);
        y.put(0, 0);
        rule(y, "due 0-1; pays 1000; birds 999; price 0-9999*9999;");
        due("0 at least", y.of(0, 2), 0);
        due("999 at most", y.of(0, 3), 999);
        due("999", y.of(0, 4), 999);
        y.off(0);
        due("0 at least", y.of(0, 5), 0);
    }

    private static void laws() {
        reckons("plinth*100+shade*10+view", 227);
        reckons("head*100+fame*10+name", 333);
        reckons("right*10+owes+day", 10);
        reckons("10-3-2", 5);
        reckons("100/7/2", 7);
        reckons("2+3*4", 14);
        reckons("(2+3)*4", 20);
        reckons("100/7*7", 98);
        reckons("20-7/2", 17);
        reckons("20+(0-7)/2", 17);
        reckons("20+-7/2", 17);
        reckons("20--7", 27);
        reckons("5/0+3", 3);
        reckons("7/(1-1)", 0);
        reckons("9999*9999/1000", 999);
        reckons("9999*9999/9999", 100);
        reckons("9999*9999+9999-9999*100-99", 1);
        reckons("9999*9999*9999*9999-999*1000-100", 900);
        reckons("(0-9999)*9999*9999+9999*100+101", 1);
        reckons("(9999*9999*9999)/1001", 999);
        asks("1 < 2", true);
        asks("2 < 2", false);
        asks("2 <= 2", true);
        asks("3 <= 2", false);
        asks("3 > 2", true);
        asks("2 > 2", false);
        asks("2 >= 2", true);
        asks("1 >= 2", false);
        asks("2 = 2", true);
        asks("1 = 2", false);
        asks("1 # 2", true);
        asks("2 # 2", false);
        asks("not 1 < 2", false);
        asks("not not 1 < 2", true);
        asks("not 1 < 2 or 1 < 2", true);
        asks("not 2 < 1 and 1 < 2", true);
        asks("1 < 2 or 1 < 2 and 2 < 1", true);
        asks("2 < 1 and 1 < 2 or 1 < 2", true);
        asks("2 < 1 and 1 < 2 or 2 < 1", false);
        asks("1 + 1 * 2 = 6 / 2", true);
        asks("-1 < name - 3", true);
        reckonsClose();
    }

    private static void reckonsClose() {
        StatuesWhoOwe x = new StatuesWhoOwe();
        x.plinth(50, 50, 0, 0);
        x.plinth(55, 45, 0, 0);
        x.plinth(40, 50, 0, 0);
        x.plinth(50, 61, 0, 0);
        x.plinth(50, 50, 0, 0);
        x.head(1, 1);
        x.put(0, 1);
        rule(x, "price close*10+plinth;");
        due("close, with or without a head", x.of(0, 5), 30);
        due("close", x.of(2, 5), 22);
        due("close", x.of(3, 5), 3);
        due("with a head", x.of(1, 5), 0);
        StatuesWhoOwe y = square(1, 1);
        y.put(0, 0);
        rule(y, "due name + 5; pays day; birds right;");
        due("no name", y.of(0, 2), 4);
        due("not right", y.of(0, 4), 0);
        y.pass(7);
        due("day", y.of(0, 3), 7);
    }

    private static void headOf() {
        promise = 18;
        StatuesWhoOwe x = square(2, 0);
        x.head(7, 2);
        x.head(3, 0);
        x.put(0, 1);
        x.pass(4);
        int[] want = {1, 4, 7, 2};
        int[] other = {NONE, 0, 3, 0};
        for (int what = 0; what < 4; what++) {
            due("headOf(0, " + what + ")", x.headOf(0, what), want[what]);
            due("headOf(1, " + what + ")", x.headOf(1, what), other[what]);
        }
        due("others", x.headOf(0, 4), -2);
        due("others", x.headOf(0, -1), -2);
        due("others", x.headOf(2, 0), -2);
        due("others", x.headOf(-1, 0), -2);
        due("others", x.headOf(LOW, HIGH), -2);
    }

    private static void best() {
        promise = 19;
        StatuesWhoOwe x = new StatuesWhoOwe();
        due("no plinths", x.best(NONE), 0);
        due("others", x.best(0), -100000);
        due("others", x.best(-2), -100000);
        due("others", x.best(HIGH), -100000);
        x = square(2, 3);
        due("due 1 alone", x.best(NONE), 0);
        due("none", x.best(0), NONE);
        rule(x, "due 0;");
        due("like ones", x.best(0), NONE);
        rule(x, "due 0; pays 5;");
        due("all", x.best(NONE), 10);
        due("the lowest", x.best(0), 0);
        due("the next", x.best(1), 1);
        // 2 is best on both, but most on plinth 1.
        rule(x, "due 1; pays fame * (plinth + 1) + 1;");
        due("all", x.best(NONE), 5);
        due("best(0)", x.best(0), 1);
        due("best(1)", x.best(1), 2);
        rule(x, "due 10; pays head; price 0;");
        due("rather none", x.best(NONE), 0);
        due("best(1)", x.best(1), NONE);
        bestOfNames();
    }

    private static void bestOfNames() {
        StatuesWhoOwe x = square(3, 3);
        x.put(0, 0);
        x.carve(0, 2);
        x.carve(2, 0);
        rule(x, "pays right * 50 - owes; due 0; price 9;");
        due("the names as carved", x.best(NONE), 109);
        due("best(0)", x.best(0), 2);
        due("best(1)", x.best(1), NONE);
        due("best(2)", x.best(2), 0);
        due("nothing is put", x.of(0, 0), 0);
        due("no step", x.about(6), 3);
        StatuesWhoOwe y = square(8, 12);
        rule(y, "due 0; pays 100 - (head - plinth) * (head - plinth);");
        due("eight of twelve", y.best(NONE), 800);
        for (int plinth = 0; plinth < 8; plinth++) {
            due("best", y.best(plinth), plinth);
        }
        due("others", y.best(8), -100000);
        StatuesWhoOwe z = square(8, 12);
        rule(z, "due 999;");
        z.by(NONE);
        rule(z, "due 999; pays 1;");
        due("none is better", z.best(NONE), 0);
        StatuesWhoOwe w = square(2, 1);
        rule(w, "due 0; pays 7;");
        due("one head, like plinths", w.best(NONE), 7);
        due("none below all", w.best(0), NONE);
        due("so the other one", w.best(1), 0);
    }

    private static void seen() {
        promise = 20;
        StatuesWhoOwe x = square(2, 1);
        int[][] others = {{0, 0, 0}, {9, 0, 0}, {1, 2, 0}, {1, -1, 0}, {1, 0, 4}, {1, 0, -2}, {LOW, 0, 0}, {1, HIGH, 0},
            {1, 0, LOW}};
        for (int[] o : others) {
            due("others", x.seen(o[0], o[1], o[2]), NONE);
        }
        due("about(7)", x.about(7), 0);
        due("none there", x.seen(8, 1, NONE), 1);
        due("a chin", x.seen(1, 0, 3), 2);
        for (int i = 3; i <= 12; i++) {
            due("the same", x.seen(1, 0, 3), i);
        }
        due("a 13th", x.seen(1, 0, 3), NONE);
        due("about(7)", x.about(7), 12);
        due("no step", x.about(6), 0);
    }

    private static void forget() {
        promise = 21;
        StatuesWhoOwe x = square(1, 0);
        due("none", x.forget(), 0);
        x.seen(1, 0, 1);
        x.seen(2, 0, 1);
        due("two", x.forget(), 2);
        due("about(7)", x.about(7), 0);
        due("all is free", x.fewest(), 0);
        due("seen", x.seen(3, 0, NONE), 1);
    }

    private static void fewest() {
        promise = 22;
        StatuesWhoOwe x = new StatuesWhoOwe();
        due("no plinths", x.fewest(), 0);
        x = square(5, 5);
        for (int i = 0; i < 5; i++) {
            x.put(i, i);
        }
        due("nothing seen", x.fewest(), 0);
        x.seen(8, 0, 0);
        due("head 0 or 4", x.fewest(), 0);
        x.seen(3, 1, 0);
        x.seen(3, 0, 1);
        due("one change there, one back", x.fewest(), 2);
        x.seen(5, 0, 2);
        due("one more on the way", x.fewest(), 3);
        x.seen(5, 0, 3);
        due("two chins at once", x.fewest(), NONE);
        x.forget();
        x.seen(1, 0, 1);
        x.seen(1, 1, 2);
        x.seen(1, 2, 3);
        x.seen(1, 3, 0);
        due("a round of four", x.fewest(), 3);
        x.seen(1, 4, NONE);
        due("none without a head", x.fewest(), NONE);
        x.forget();
        x.plinth(1, 1, 1, 1);
        due("six plinths", x.fewest(), NONE);
        fewestWithNone();
    }

    private static void fewestWithNone() {
        StatuesWhoOwe x = square(5, 2);
        x.put(1, 0);
        x.seen(4, 0, NONE);
        x.seen(4, 1, NONE);
        x.seen(4, 2, NONE);
        due("one change", x.fewest(), 1);
        x.seen(2, 1, 1);
        due("two", x.fewest(), 2);
        x.seen(3, 1, NONE);
        x.seen(6, 1, 1);
        due("three", x.fewest(), 3);
        x.seen(6, 2, 1);
        due("one head is not two", x.fewest(), NONE);
        x.forget();
        x.seen(1, 0, 0);
        due("a head that doesn't stand", x.fewest(), NONE);
        everyOrder();
    }

    /** Four chins and none can be told apart, so each order is one; a round of k needs k - 1 changes. */
    private static void everyOrder() {
        int orders = 0;
        for (int code = 0; code < 3125; code++) {
            int[] order = {code % 5, code / 5 % 5, code / 25 % 5, code / 125 % 5, code / 625};
            int bits = 0;
            for (int i : order) {
                bits |= 1 << i;
            }
            if (bits != 31) {
                continue;
            }
            orders++;
            int rounds = 0;
            boolean[] met = new boolean[5];
            for (int i = 0; i < 5; i++) {
                rounds += met[i] ? 0 : 1;
                for (int j = i; !met[j]; j = order[j]) {
                    met[j] = true;
                }
            }
            StatuesWhoOwe y = square(5, 4);
            for (int i = 0; i < 4; i++) {
                y.put(i, i);
            }
            for (int i = 0; i < 5; i++) {
                y.seen(5, i, order[i] == 4 ? NONE : order[i]);
            }
            due("the order " + code, y.fewest(), 5 - rounds);
            due("who", y.who(5, 3), order[3] == 4 ? 4096 : 1 << order[3]);
            if (rounds == 5) {
                due("who", y.who(2, 1), 2);
            }
        }
        due("orders", orders, 120);
    }

    private static void who() {
        promise = 23;
        StatuesWhoOwe x = square(3, 6);
        x.put(1, 0);
        x.put(5, 1);
        due("nothing seen", x.who(0, 0), 2);
        due("nothing seen", x.who(8, 1), 32);
        due("nothing seen", x.who(4, 2), 4096);
        x.seen(2, 2, 1);
        due("fewest", x.fewest(), 1);
        due("now", x.who(0, 2), 4096);
        due("head 1 or head 5", x.who(2, 2), 34);
        due("in either night", x.who(1, 2), 4096 + 34);
        due("the others", x.who(1, 0), 4096 + 2);
        due("the others", x.who(8, 1), 4096 + 32);
        due("others", x.who(9, 0), NONE);
        due("others", x.who(-1, 0), NONE);
        due("others", x.who(1, 3), NONE);
        due("others", x.who(1, -1), NONE);
        due("others", x.who(HIGH, LOW), NONE);
        x.seen(2, 2, 3);
        due("none can be", x.who(0, 0), NONE);
        StatuesWhoOwe y = square(6, 1);
        due("six plinths", y.who(0, 0), NONE);
    }

    private static void stood() {
        promise = 24;
        StatuesWhoOwe x = square(2, 2);
        x.put(0, 0);
        x.pass(3);
        x.carve(0, 11);
        x.pass(2);
        x.change(0, 1);
        x.pass(4);
        x.off(1);
        x.pass(9);
        due("under none", x.stood(0, NONE), 7);
        due("under 11", x.stood(0, 11), 2);
        due("under 0", x.stood(0, 0), 0);
        due("head 1", x.stood(1, NONE), 0);
        due("others", x.stood(2, 0), NONE);
        due("others", x.stood(-1, 0), NONE);
        due("others", x.stood(0, 12), NONE);
        due("others", x.stood(0, -2), NONE);
        due("others", x.stood(HIGH, LOW), NONE);
    }

    private static void longest() {
        promise = 25;
        StatuesWhoOwe x = square(3, 3);
        due("nobody", x.longest(NONE), NONE);
        x.put(2, 0);
        x.pass(2);
        due("head 2", x.longest(NONE), 2);
        x.put(1, 1);
        x.pass(1);
        due("still", x.longest(NONE), 2);
        x.off(0);
        x.pass(2);
        due("like ones: the lowest", x.longest(NONE), 1);
        x.carve(1, 9);
        due("nobody", x.longest(9), NONE);
        x.pass(1);
        due("head 1", x.longest(9), 1);
        due("others", x.longest(12), NONE);
        due("others", x.longest(-2), NONE);
        due("others", x.longest(HIGH), NONE);
    }

    private static void tour() {
        promise = 26;
        StatuesWhoOwe x = square(4, 0);
        due("no miles to go", x.tour(1, 0, 0), 8);
        due("one alone", x.tour(1, 9, 0), 8);
        due("no miles", x.tour(1, 9, 1), 0);
        due("the first", x.tour(1, 9, 2), 1);
        due("no second", x.tour(1, 9, 3), NONE);
        due("the better side", x.tour(1, 10, 3), 0);
        due("view", x.tour(1, 10, 0), 17);
        due("both sides", x.tour(1, 30, 0), 8 + 9 + 7);
        due("both sides", x.tour(1, 30, 1), 30);
        due("all", x.tour(1, 999, 0), 9 + 8 + 7 + 6);
        due("by the shorter way", x.tour(1, 999, 1), 40);
        due("the second", x.tour(1, 999, 3), 0);
        due("the last", x.tour(1, 999, 5), 3);
        due("no fifth", x.tour(1, 999, 6), NONE);
        due("others", x.tour(4, 10, 0), NONE);
        due("others", x.tour(-1, 10, 0), NONE);
        due("others", x.tour(0, -1, 0), NONE);
        due("others", x.tour(0, 1000, 0), NONE);
        due("others", x.tour(0, 10, -1), NONE);
        due("others", x.tour(0, 10, HIGH), NONE);
        due("others", x.tour(0, HIGH, 0), NONE);
        due("others", x.tour(0, 10, LOW), NONE);
        tourOfLikeOnes();
    }

    private static void tourOfLikeOnes() {
        StatuesWhoOwe x = new StatuesWhoOwe();
        x.plinth(0, 0, 0, 0);
        x.plinth(0, 0, 0, 0);
        x.plinth(5, 0, 0, 0);
        due("none below all", x.tour(0, 99, 3), NONE);
        x.plinth(10, 0, 0, 4);
        due("1 below 3", x.tour(0, 99, 3), 1);
        due("2 on the way", x.tour(0, 99, 4), 2);
        due("then 3", x.tour(0, 99, 5), 3);
        due("miles", x.tour(0, 99, 1), 10);
        x.plinth(0, 10, 0, 4);
        due("like views at like miles", x.tour(0, 10, 5), 3);
        due("no more", x.tour(0, 10, 6), NONE);
    }

    private static void rounds() {
        promise = 27;
        StatuesWhoOwe x = new StatuesWhoOwe();
        due("without plinths", x.rounds(1, NONE), NONE);
        x = square(3, 3);
        rule(x, "birds fame * 10;");
        due("no heads", x.rounds(5, NONE), 0);
        due("the lowest", x.rounds(5, 4), 0);
        x.put(1, 0);
        x.put(2, 1);
        due("clean the dirtier", x.rounds(1, 0), 1);
        due("the other's is left", x.rounds(1, NONE), 10);
        // 0 first leaves 20 and then 10, 1 first leaves 10 and then 20: like ones.
        due("two days", x.rounds(2, NONE), 30);
        due("first", x.rounds(2, 0), 0);
        due("second", x.rounds(2, 1), 1);
        // 1 0 1 leaves 10, 20, 10.
        due("three days", x.rounds(3, NONE), 40);
        due("first", x.rounds(3, 0), 1);
        due("second", x.rounds(3, 1), 0);
        due("third", x.rounds(3, 2), 1);
        due("others", x.rounds(0, NONE), NONE);
        due("others", x.rounds(6, NONE), NONE);
        due("others", x.rounds(2, 2), NONE);
        due("others", x.rounds(2, -2), NONE);
        due("others", x.rounds(HIGH, LOW), NONE);
        due("no step", x.about(6), 2);
    }

    private static void revolution() {
        promise = 28;
        StatuesWhoOwe x = square(2, 0);
        due("no heads", x.revolution(0, 1), NONE);
        StatuesWhoOwe y = square(0, 2);
        due("no plinths", y.revolution(0, 1), NONE);
        x.head(1, 1);
        int[][] others = {{-1, 1}, {10000, 1}, {0, 0}, {0, 100}, {HIGH, 1}, {0, LOW}};
        for (int[] o : others) {
            due("others", x.revolution(o[0], o[1]), NONE);
        }
        due("no step", x.about(6), 0);
        // X is 18: 0 by 3; the next X is drawn by 1 head, the one behind it by 2 plinths.
        int after = (18 * 193 + 71) % 30059;
        int plinth = ((after * 193 + 71) % 30059) % 2;
        due("put", x.revolution(1, 1), 1);
        due("where", x.headOf(0, 0), plinth);
        due("a step", x.about(6), 1);
        due("undo", x.undo(), 0);
        due("taken back", x.headOf(0, 0), NONE);
        due("nothing done", x.revolution(0, 1), 0);
        due("a step all the same", x.about(6), 1);
        int done = x.revolution(9999, 99);
        due("some done", done > 0 && done < 99, true);
        due("one step", x.about(6), 2);
        revolutionByHand();
    }

    /** The draws worked out here are all there is: what each turn does is looked at one by one. */
    private static void revolutionByHand() {
        for (int seed = 0; seed < 200; seed++) {
            StatuesWhoOwe x = square(3, 4);
            StatuesWhoOwe y = square(3, 4);
            x.put(3, 1);
            y.put(3, 1);
            int[] draws = {seed * 13 + 5};
            int done = 0;
            for (int turn = 0; turn < 9; turn++) {
                int kind = draw(draws, 3);
                int first = draw(draws, kind == 0 ? 4 : 3);
                int second = draw(draws, 3);
                boolean did = kind == 0 ? y.put(first, second) : kind == 1 ? y.change(first, second) : y.off(first) >= 0;
                done += did ? 1 : 0;
            }
            due("revolution(" + seed + ", 9)", x.revolution(seed, 9), done);
            for (int plinth = 0; plinth < 3; plinth++) {
                due("of(" + plinth + ", 0)", x.of(plinth, 0), y.of(plinth, 0));
            }
            due("undo", x.undo(), 1);
            due("as ahead of it", x.of(1, 0), 3);
        }
    }

    private static int draw(int[] draws, int by) {
        int drawn = draws[0] % by;
        draws[0] = (draws[0] * 193 + 71) % 30059;
        return drawn;
    }

    private static void image() {
        promise = 29;
        StatuesWhoOwe x = square(2, 2);
        x.put(0, 0);
        x.pass(3);
        due("image()", x.image(), 3);
        x.pass(4);
        due("a later one", x.image(), 7);
        x.pass(1);
        due("the later", x.back(), 7);
        due("no step", x.about(6), 3);
    }

    private static void back() {
        promise = 30;
        StatuesWhoOwe x = square(2, 2);
        x.put(0, 0);
        x.carve(0, 1);
        x.seen(1, 0, 0);
        rule(x, "due 4; price 1;");
        x.pass(2);
        x.image();
        x.plinth(9, 9, 9, 9);
        x.head(9, 3);
        x.off(0);
        x.carve(0, NONE);
        x.forget();
        rule(x, "due 5;");
        due("a fault", read(x, "?"), NONE);
        x.pass(50);
        x.pay(0, 1);
        x.feed(1, 2, 3, 4, 5);
        for (int i = 0; i < 2; i++) {
            due("back()", x.back(), 2);
            int[] want = {2, 2, 2, 2, 1, 0, 3, 1, 20, 8};
            for (int what = 0; what < want.length; what++) {
                due("about(" + what + ")", x.about(what), want[what]);
            }
            due("the fault stays", x.fault(0), 1);
            due("of(0, 0)", x.of(0, 0), 0);
            due("of(0, 1)", x.of(0, 1), 1);
            due("of(0, 2)", x.of(0, 2), 4);
            due("stood", x.stood(0, 1), 2);
            due("the text is gone", x.by(1), false);
            due("undo", x.undo(), 2);
            due("day", x.about(2), 0);
            due("undo", x.undo(), 1);
            due("undo", x.undo(), 0);
        }
        x.back();
        x.end(0);
        due("a text anew", read(x, "due 6;"), 1);
        x.by(1);
        due("it rules", x.of(0, 2), 6);
        x.by(0);
        due("the first is whole", x.of(0, 2), 4);
        backToWhatWasTold();
    }

    private static void backToWhatWasTold() {
        StatuesWhoOwe x = square(2, 2);
        x.put(0, 0);
        x.seen(2, 1, 0);
        rule(x, "price close;");
        x.image();
        x.plinth(9, 1, 5, 5);
        due("close to both", x.of(1, 5), 2);
        x.forget();
        x.seen(7, 0, NONE);
        x.back();
        due("close as it was", x.of(1, 5), 1);
        due("seen in the second night", x.who(2, 1), 1);
        due("not in the seventh", x.who(1, 1), 4097);
        x.plinth(90, 90, 1, 1);
        due("close anew", x.of(2, 5), 0);
        due("about(22)", x.about(22), 11);
    }

    private static void about() {
        promise = 31;
        StatuesWhoOwe x = new StatuesWhoOwe();
        x.plinth(12, 34, 5, 6);
        x.plinth(99, 0, 0, 9);
        x.head(1, 1);
        x.head(1, 1);
        x.put(0, 0);
        x.put(1, 1);
        rule(x, "pays 3; due 2;");
        x.pass(5);
        x.seen(1, 1, 1);
        x.feed(0, 0, 0, 0, 0);
        int[] want = {2, 2, 5, 30, 1, 0, 3, 1, 20, 20, 1234, 9900};
        for (int what = 0; what < want.length; what++) {
            due("about(" + what + ")", x.about(what), want[what]);
        }
        due("about(20)", x.about(20), 56);
        due("about(21)", x.about(21), 9);
        int[] others = {-1, -2, 12, 17, 18, 19, 22, 27, 28, 29, 30, HIGH, LOW};
        for (int what : others) {
            due("about(" + what + ")", x.about(what), -2);
        }
        StatuesWhoOwe y = square(8, 0);
        due("about(17)", y.about(17), 7000);
        due("about(27)", y.about(27), 72);
        due("about(18)", y.about(18), -2);
        due("about(28)", y.about(28), -2);
    }
}
