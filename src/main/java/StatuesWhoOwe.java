import java.util.Arrays;

/**
 * A square of plinths on which heads stand under carved names as long as somebody pays.
 *
 * <p>Every row that a call needs is made once, with the object, and used again: no call makes an
 * object or an array.
 */
public final class StatuesWhoOwe {
    public static final int NONE = -1;

    private static final int MOST_PLINTHS = 8;
    private static final int MOST_HEADS = 12;
    private static final int MOST_TEXTS = 4;
    private static final int MOST_BYTES = 300;
    private static final int MOST_CLAUSES = 24;
    private static final int MOST_STEPS = 20;
    private static final int MOST_SEEN = 12;
    private static final int MOST_OPEN = 8;
    private static final int NIGHTS = 8;
    private static final int LAST_DAY = 999;
    private static final int MOST_DAYS_AT_ONCE = 99;
    private static final int MOST_AMOUNT = 999;
    private static final int MOST_NUMBER = 9999;
    private static final int MOST_OF_A_STEP = 1000000;
    private static final int MOST_MILES = 999;
    private static final int MOST_ROUNDS = 5;
    private static final int MOST_TURNS = 99;
    private static final int OTHER = -2;
    private static final int NO_BEST = -100000;

    // Kinds of tokens. The words stand in the order of WORDS, the signs in the order of SIGNS.
    private static final String WORDS = "due pays birds price falls put off change pass on with or and not plinth shade view day close head fame name right owes ";
    private static final int DUE = 0;
    private static final int PAYS = 1;
    private static final int BIRDS = 2;
    private static final int PRICE = 3;
    private static final int FALLS = 4;
    private static final int PUT = 5;
    private static final int OFF = 6;
    private static final int CHANGE = 7;
    private static final int PASS = 8;
    private static final int ON = 9;
    private static final int WITH = 10;
    private static final int OR = 11;
    private static final int AND = 12;
    private static final int NOT = 13;
    private static final int PLINTH = 14;
    private static final int SHADE = 15;
    private static final int VIEW = 16;
    private static final int DAY = 17;
    private static final int CLOSE = 18;
    private static final int HEAD = 19;
    private static final int FAME = 20;
    private static final int NAME = 21;
    private static final int RIGHT = 22;
    private static final int OWES = 23;
    private static final String SIGNS = "<>=#+-*/();";
    private static final int FIRST_SIGN = 24;
    private static final int LESS = 24;
    private static final int MORE = 25;
    private static final int LIKE = 26;
    private static final int UNLIKE = 27;
    private static final int PLUS = 28;
    private static final int MINUS = 29;
    private static final int TIMES = 30;
    private static final int OVER = 31;
    private static final int OPENS = 32;
    private static final int CLOSES = 33;
    private static final int STOP = 34;
    private static final int AT_MOST = 35;
    private static final int AT_LEAST = 36;
    private static final int NUMBER = 37;
    private static final int END = 38;
    private static final int NO_TOKEN = 39;
    private static final int NEGATE = 40;

    // In the code of a law a value below FIRST_CODE is a number, any other one FIRST_CODE and a kind.
    private static final int FIRST_CODE = MOST_NUMBER + 1;

    private final Told told;
    private final Moment now;
    private final Steps steps = new Steps();
    private final Told imageTold = new Told();
    private final Moment imageNow = new Moment();
    private final Steps imageSteps = new Steps();
    private final Tape tape;
    private final Reader reader;
    private final Text[] texts;
    private final Judge judge;
    private final Placing placing;
    private final Nights nights;
    private final Walk walk;
    private final Keeper keeper = new Keeper();
    private int draws;

    public StatuesWhoOwe() {
        // Parts that share others get them while these are still the constructor's own.
        Told newTold = new Told();
        Moment newNow = new Moment();
        Tape newTape = new Tape();
        Text[] newTexts = new Text[MOST_TEXTS];
        for (int i = 0; i < MOST_TEXTS; i++) {
            newTexts[i] = new Text();
        }
        Judge newJudge = new Judge(newTold, newNow, newTexts);
        told = newTold;
        now = newNow;
        tape = newTape;
        texts = newTexts;
        judge = newJudge;
        reader = new Reader(newTape);
        placing = new Placing(newTold, newJudge);
        nights = new Nights(newTold, newNow);
        walk = new Walk(newTold);
    }

    public int plinth(int x, int y, int shade, int view) {
        return told.addPlinth(x, y, shade, view);
    }

    public int head(int fame, int chin) {
        return told.addHead(fame, chin);
    }

    public boolean put(int head, int plinth) {
        if (!canPut(head, plinth)) {
            return false;
        }
        steps.keep(now);
        now.stand(plinth, head);
        return true;
    }

    public int off(int plinth) {
        if (!canOff(plinth)) {
            return NONE;
        }
        steps.keep(now);
        int head = now.headAt(plinth);
        now.stand(plinth, NONE);
        return head;
    }

    public boolean change(int one, int other) {
        if (!canChange(one, other)) {
            return false;
        }
        steps.keep(now);
        now.swap(one, other);
        return true;
    }

    public boolean carve(int plinth, int name) {
        if (!told.isPlinth(plinth) || !isName(name) || now.nameAt(plinth) == name) {
            return false;
        }
        steps.keep(now);
        now.engrave(plinth, name);
        return true;
    }

    public int pay(int head, int n) {
        if (!told.isHead(head) || n < 1 || n > MOST_NUMBER || now.debt(head) < n || now.purse() < n) {
            return NONE;
        }
        steps.keep(now);
        now.owe(head, -n);
        now.earn(-n);
        return now.debt(head);
    }

    public int pass(int days) {
        if (days < 1 || days > MOST_DAYS_AT_ONCE || now.day() + days > LAST_DAY) {
            return NONE;
        }
        steps.keep(now);
        for (int i = 0; i < days; i++) {
            dayPasses();
        }
        return now.day();
    }

    public int feed(int a, int b, int c, int d, int e) {
        if (!tape.hasRoomForTwenty()) {
            return NONE;
        }
        tape.add(a);
        tape.add(b);
        tape.add(c);
        tape.add(d);
        tape.add(e);
        return tape.length();
    }

    public int end(int n) {
        if (n < 0 || n > tape.length()) {
            return NONE;
        }
        tape.cut(n);
        return n;
    }

    public int text() {
        int number = told.texts();
        if (number >= texts.length) {
            return NONE;
        }
        boolean fine = reader.read(texts[number]);
        tape.cut(0);
        if (!fine) {
            return NONE;
        }
        told.addText();
        return number;
    }

    public int fault(int what) {
        if (what == 0) {
            return reader.latestFault();
        }
        return what == 1 ? reader.latestPlace() : NONE;
    }

    public boolean by(int text) {
        if (text != NONE && !told.isText(text)) {
            return false;
        }
        told.ruledBy(text);
        return true;
    }

    public int played(int text) {
        if (!told.isText(text)) {
            return OTHER;
        }
        Text script = texts[text];
        for (int i = 0; i < script.clauses(); i++) {
            int one = script.first(i);
            int other = script.second(i);
            boolean fine = switch (script.kind(i)) {
                case PUT -> put(one, other);
                case OFF -> off(one) != NONE;
                case CHANGE -> change(one, other);
                case PASS -> pass(one) != NONE;
                default -> true;
            };
            if (!fine) {
                return i;
            }
        }
        return NONE;
    }

    public int undo() {
        if (!steps.takeBack(now)) {
            return NONE;
        }
        return steps.count();
    }

    public int of(int plinth, int what) {
        if (!told.isPlinth(plinth)) {
            return OTHER;
        }
        int head = now.headAt(plinth);
        boolean stands = head != NONE;
        return switch (what) {
            case 0 -> head;
            case 1 -> now.nameAt(plinth);
            case 2 -> stands ? judge.amount(DUE, plinth, head) : 0;
            case 3 -> stands ? judge.amount(PAYS, plinth, head) : 0;
            case 4 -> stands ? judge.amount(BIRDS, plinth, head) : 0;
            case 5 -> stands ? 0 : judge.amount(PRICE, plinth, NONE);
            case 6 -> stands ? judge.amount(FALLS, plinth, head) : 0;
            default -> OTHER;
        };
    }

    public int headOf(int head, int what) {
        if (!told.isHead(head)) {
            return OTHER;
        }
        return switch (what) {
            case 0 -> now.placeOf(head);
            case 1 -> now.debt(head);
            case 2 -> told.fameOf(head);
            case 3 -> told.chinOf(head);
            default -> OTHER;
        };
    }

    public int best(int plinth) {
        if (plinth != NONE && !told.isPlinth(plinth)) {
            return NO_BEST;
        }
        placing.solve();
        return plinth == NONE ? placing.shillings() : placing.headFor(plinth);
    }

    public int seen(int night, int plinth, int chin) {
        return told.addSeen(night, plinth, chin);
    }

    public int forget() {
        return told.dropSeen();
    }

    public int fewest() {
        return nights.search(NIGHTS);
    }

    public int who(int night, int plinth) {
        if (night < 0 || night > NIGHTS || !told.isPlinth(plinth) || nights.search(night) == NONE) {
            return NONE;
        }
        return nights.headsAt(plinth);
    }

    public int stood(int head, int name) {
        if (!told.isHead(head) || !isName(name)) {
            return NONE;
        }
        return now.daysStood(head, name);
    }

    public int longest(int name) {
        if (!isName(name)) {
            return NONE;
        }
        int found = NONE;
        int most = 0;
        for (int head = 0; head < told.heads(); head++) {
            int days = now.daysStood(head, name);
            if (days > most) {
                most = days;
                found = head;
            }
        }
        return found;
    }

    public int tour(int from, int miles, int what) {
        if (!told.isPlinth(from) || miles < 0 || miles > MOST_MILES || what < 0) {
            return NONE;
        }
        walk.find(from, miles);
        if (what == 0) {
            return walk.foundView();
        }
        return what == 1 ? walk.foundMiles() : walk.foundPlinth(what - 2);
    }

    public int rounds(int n, int day) {
        if (n < 1 || n > MOST_ROUNDS || day < NONE || day >= n || told.plinths() == 0) {
            return NONE;
        }
        keeper.start(told.plinths());
        for (int plinth = 0; plinth < told.plinths(); plinth++) {
            int head = now.headAt(plinth);
            keeper.expect(plinth, head == NONE ? 0 : judge.amount(BIRDS, plinth, head));
        }
        keeper.plan(n);
        return day == NONE ? keeper.leastDirt() : keeper.cleanedOn(day);
    }

    public int revolution(int seed, int n) {
        if (seed < 0 || seed > MOST_NUMBER || n < 1 || n > MOST_TURNS
                || told.plinths() == 0 || told.heads() == 0) {
            return NONE;
        }
        steps.keep(now);
        draws = seed * 13 + 5;
        int done = 0;
        for (int turn = 0; turn < n; turn++) {
            if (turns()) {
                done++;
            }
        }
        return done;
    }

    public int image() {
        imageTold.become(told);
        imageNow.become(now);
        imageSteps.become(steps);
        return now.day();
    }

    public int back() {
        // The texts themselves need no image: a text is only written behind those the image counts.
        told.become(imageTold);
        now.become(imageNow);
        steps.become(imageSteps);
        return now.day();
    }

    public int about(int what) {
        if (what >= 10 && what < 20) {
            int plinth = what - 10;
            return told.isPlinth(plinth) ? told.xOf(plinth) * 100 + told.yOf(plinth) : OTHER;
        }
        if (what >= 20 && what < 30) {
            int plinth = what - 20;
            return told.isPlinth(plinth) ? told.shadeOf(plinth) * 10 + told.viewOf(plinth) : OTHER;
        }
        return switch (what) {
            case 0 -> told.plinths();
            case 1 -> told.heads();
            case 2 -> now.day();
            case 3 -> now.purse();
            case 4 -> told.texts();
            case 5 -> told.ruling();
            case 6 -> steps.count();
            case 7 -> told.countSeen();
            case 8 -> tape.length();
            case 9 -> now.debts();
            default -> OTHER;
        };
    }

    private boolean canPut(int head, int plinth) {
        return told.isHead(head) && told.isPlinth(plinth)
                && now.headAt(plinth) == NONE && now.placeOf(head) == NONE;
    }

    private boolean canOff(int plinth) {
        return told.isPlinth(plinth) && now.headAt(plinth) != NONE;
    }

    private boolean canChange(int one, int other) {
        return told.isPlinth(one) && told.isPlinth(other) && one != other
                && (now.headAt(one) != NONE || now.headAt(other) != NONE);
    }

    private static boolean isName(int name) {
        return name >= NONE && name < MOST_HEADS;
    }

    private void dayPasses() {
        for (int plinth = 0; plinth < told.plinths(); plinth++) {
            int head = now.headAt(plinth);
            if (head == NONE) {
                now.earn(judge.amount(PRICE, plinth, NONE));
            } else {
                now.standsADay(plinth);
                now.earn(judge.amount(PAYS, plinth, head));
                now.owe(head, judge.amount(DUE, plinth, head));
            }
        }
        for (int plinth = 0; plinth < told.plinths(); plinth++) {
            int head = now.headAt(plinth);
            if (head != NONE && judge.amount(FALLS, plinth, head) != 0) {
                now.stand(plinth, NONE);
            }
        }
        now.nextDay();
    }

    private boolean turns() {
        int kind = draw(3);
        int first = draw(kind == 0 ? told.heads() : told.plinths());
        int second = draw(told.plinths());
        if (kind == 0 && canPut(first, second)) {
            now.stand(second, first);
            return true;
        }
        if (kind == 1 && canChange(first, second)) {
            now.swap(first, second);
            return true;
        }
        if (kind == 2 && canOff(first)) {
            now.stand(first, NONE);
            return true;
        }
        return false;
    }

    private int draw(int by) {
        int drawn = by > 0 ? draws % by : 0;
        draws = (draws * 193 + 71) % 30059;
        return drawn;
    }

    /** What was told and is no step: plinths, heads, what was seen, how many texts and which rules. */
    private static final class Told {
        private final int[] x = new int[MOST_PLINTHS];
        private final int[] y = new int[MOST_PLINTHS];
        private final int[] shade = new int[MOST_PLINTHS];
        private final int[] view = new int[MOST_PLINTHS];
        private final int[] close = new int[MOST_PLINTHS];
        private final int[] fame = new int[MOST_HEADS];
        private final int[] chin = new int[MOST_HEADS];
        private final int[] seenNight = new int[MOST_SEEN];
        private final int[] seenPlinth = new int[MOST_SEEN];
        private final int[] seenChin = new int[MOST_SEEN];
        private int plinths;
        private int heads;
        private int sights;
        private int texts;
        private int ruling = NONE;

        int addPlinth(int newX, int newY, int newShade, int newView) {
            if (plinths >= MOST_PLINTHS || newX < 0 || newX > 99 || newY < 0 || newY > 99
                    || newShade < 0 || newShade > 9 || newView < 0 || newView > 9) {
                return NONE;
            }
            x[plinths] = newX;
            y[plinths] = newY;
            shade[plinths] = newShade;
            view[plinths] = newView;
            countClose(plinths);
            plinths++;
            return plinths - 1;
        }

        private void countClose(int added) {
            close[added] = 0;
            for (int other = 0; other < added; other++) {
                if (milesApart(added, other) <= 10) {
                    close[added]++;
                    close[other]++;
                }
            }
        }

        int addHead(int newFame, int newChin) {
            if (heads >= MOST_HEADS || newFame < 0 || newFame > 9 || newChin < 0 || newChin > 3) {
                return NONE;
            }
            fame[heads] = newFame;
            chin[heads] = newChin;
            heads++;
            return heads - 1;
        }

        int addSeen(int night, int plinth, int newChin) {
            if (sights >= MOST_SEEN || night < 1 || night > NIGHTS || !isPlinth(plinth)
                    || newChin < NONE || newChin > 3) {
                return NONE;
            }
            seenNight[sights] = night;
            seenPlinth[sights] = plinth;
            seenChin[sights] = newChin;
            sights++;
            return sights;
        }

        int dropSeen() {
            int were = sights;
            sights = 0;
            return were;
        }

        void addText() {
            texts++;
        }

        void ruledBy(int text) {
            ruling = text;
        }

        boolean isPlinth(int plinth) {
            return plinth >= 0 && plinth < plinths;
        }

        boolean isHead(int head) {
            return head >= 0 && head < heads;
        }

        boolean isText(int text) {
            return text >= 0 && text < texts;
        }

        int plinths() {
            return plinths;
        }

        int heads() {
            return heads;
        }

        int texts() {
            return texts;
        }

        int ruling() {
            return ruling;
        }

        int countSeen() {
            return sights;
        }

        int nightSeen(int sight) {
            return seenNight[sight];
        }

        int plinthSeen(int sight) {
            return seenPlinth[sight];
        }

        int chinSeen(int sight) {
            return seenChin[sight];
        }

        int xOf(int plinth) {
            return x[plinth];
        }

        int yOf(int plinth) {
            return y[plinth];
        }

        int shadeOf(int plinth) {
            return shade[plinth];
        }

        int viewOf(int plinth) {
            return view[plinth];
        }

        /** How many other plinths are close to one. */
        int closeTo(int plinth) {
            return close[plinth];
        }

        int fameOf(int head) {
            return fame[head];
        }

        /** The chin that is seen of a head, or NONE of none. */
        int chinOf(int head) {
            return isHead(head) ? chin[head] : NONE;
        }

        int milesApart(int one, int other) {
            return Math.abs(x[one] - x[other]) + Math.abs(y[one] - y[other]);
        }

        void become(Told other) {
            System.arraycopy(other.x, 0, x, 0, MOST_PLINTHS);
            System.arraycopy(other.y, 0, y, 0, MOST_PLINTHS);
            System.arraycopy(other.shade, 0, shade, 0, MOST_PLINTHS);
            System.arraycopy(other.view, 0, view, 0, MOST_PLINTHS);
            System.arraycopy(other.close, 0, close, 0, MOST_PLINTHS);
            System.arraycopy(other.fame, 0, fame, 0, MOST_HEADS);
            System.arraycopy(other.chin, 0, chin, 0, MOST_HEADS);
            System.arraycopy(other.seenNight, 0, seenNight, 0, MOST_SEEN);
            System.arraycopy(other.seenPlinth, 0, seenPlinth, 0, MOST_SEEN);
            System.arraycopy(other.seenChin, 0, seenChin, 0, MOST_SEEN);
            plinths = other.plinths;
            heads = other.heads;
            sights = other.sights;
            texts = other.texts;
            ruling = other.ruling;
        }
    }

    /** All that a step can change, in one row, so that a step is kept and taken back by one copy. */
    private static final class Moment {
        private static final int NAMES = MOST_PLINTHS;
        private static final int DEBTS = NAMES + MOST_PLINTHS;
        private static final int PURSE_PLACE = DEBTS + MOST_HEADS;
        private static final int DAY_PLACE = PURSE_PLACE + 1;
        private static final int STOOD = DAY_PLACE + 1;
        // Under no name comes first, so a name's days are one place behind its number.
        private static final int STOOD_WIDTH = MOST_HEADS + 1;
        private static final int SIZE = STOOD + MOST_HEADS * STOOD_WIDTH;

        private final int[] row = new int[SIZE];

        Moment() {
            for (int i = 0; i < DEBTS; i++) {
                row[i] = NONE;
            }
        }

        int headAt(int plinth) {
            return row[plinth];
        }

        int placeOf(int head) {
            for (int plinth = 0; plinth < MOST_PLINTHS; plinth++) {
                if (row[plinth] == head) {
                    return plinth;
                }
            }
            return NONE;
        }

        int nameAt(int plinth) {
            return row[NAMES + plinth];
        }

        int debt(int head) {
            return row[DEBTS + head];
        }

        int debts() {
            int all = 0;
            for (int head = 0; head < MOST_HEADS; head++) {
                all += row[DEBTS + head];
            }
            return all;
        }

        int purse() {
            return row[PURSE_PLACE];
        }

        int day() {
            return row[DAY_PLACE];
        }

        int daysStood(int head, int name) {
            return row[stoodPlace(head, name)];
        }

        void stand(int plinth, int head) {
            row[plinth] = head;
        }

        void swap(int one, int other) {
            int head = row[one];
            row[one] = row[other];
            row[other] = head;
        }

        void engrave(int plinth, int name) {
            row[NAMES + plinth] = name;
        }

        void owe(int head, int more) {
            row[DEBTS + head] += more;
        }

        void earn(int more) {
            row[PURSE_PLACE] += more;
        }

        void standsADay(int plinth) {
            row[stoodPlace(headAt(plinth), nameAt(plinth))]++;
        }

        void nextDay() {
            row[DAY_PLACE]++;
        }

        void become(Moment other) {
            System.arraycopy(other.row, 0, row, 0, SIZE);
        }

        void copyTo(int[] rows, int from) {
            System.arraycopy(row, 0, rows, from, SIZE);
        }

        void copyFrom(int[] rows, int from) {
            System.arraycopy(rows, from, row, 0, SIZE);
        }

        private static int stoodPlace(int head, int name) {
            return STOOD + head * STOOD_WIDTH + name + 1;
        }
    }

    /** The moments ahead of the latest steps, round and round in one row. */
    private static final class Steps {
        private final int[] rows = new int[MOST_STEPS * Moment.SIZE];
        private int next;
        private int count;

        int count() {
            return count;
        }

        void keep(Moment moment) {
            moment.copyTo(rows, next * Moment.SIZE);
            next = (next + 1) % MOST_STEPS;
            if (count < MOST_STEPS) {
                count++;
            }
        }

        boolean takeBack(Moment moment) {
            if (count == 0) {
                return false;
            }
            next = (next + MOST_STEPS - 1) % MOST_STEPS;
            count--;
            moment.copyFrom(rows, next * Moment.SIZE);
            return true;
        }

        void become(Steps other) {
            System.arraycopy(other.rows, 0, rows, 0, rows.length);
            next = other.next;
            count = other.count;
        }
    }

    private static final class Tape {
        private final int[] bytes = new int[MOST_BYTES];
        private int length;

        int length() {
            return length;
        }

        boolean hasRoomForTwenty() {
            return length + 20 <= MOST_BYTES;
        }

        void add(int four) {
            for (int shift = 24; shift >= 0 && length < MOST_BYTES; shift -= 8) {
                bytes[length] = (four >>> shift) & 255;
                length++;
            }
        }

        void cut(int newLength) {
            length = newLength;
        }

        /** The byte at a place, or NONE behind the last. */
        int at(int place) {
            return place >= 0 && place < length ? bytes[place] : NONE;
        }
    }

    /**
     * A text that was read: clause by clause its kind and two numbers. Of a law these are where its
     * code begins and ends; the code has what is reckoned with ahead of what reckons with it.
     */
    private static final class Text {
        private final int[] kinds = new int[MOST_CLAUSES];
        private final int[] firsts = new int[MOST_CLAUSES];
        private final int[] seconds = new int[MOST_CLAUSES];
        private final int[] laws = new int[FALLS + 1];
        private final int[] code = new int[MOST_BYTES];
        private int clauses;
        private int codeLength;

        void clear() {
            Arrays.fill(laws, NONE);
            clauses = 0;
            codeLength = 0;
        }

        int clauses() {
            return clauses;
        }

        int kind(int clause) {
            return kinds[clause];
        }

        int first(int clause) {
            return firsts[clause];
        }

        int second(int clause) {
            return seconds[clause];
        }

        boolean isFull() {
            return clauses >= MOST_CLAUSES;
        }

        /** The clause that is this law, or NONE. */
        int clauseOf(int law) {
            return law >= 0 && law < laws.length ? laws[law] : NONE;
        }

        int codeAt(int place) {
            return code[place];
        }

        int codeLength() {
            return codeLength;
        }

        void emit(int value) {
            if (codeLength < code.length) {
                code[codeLength] = value;
                codeLength++;
            }
        }

        void addClause(int kind, int first, int second) {
            if (isFull()) {
                return;
            }
            kinds[clauses] = kind;
            firsts[clauses] = first;
            seconds[clauses] = second;
            if (kind <= FALLS) {
                laws[kind] = clauses;
            }
            clauses++;
        }
    }

    /** Reads the tape token by token; the first fault ends it. */
    private static final class Reader {
        // The levels of the grammar, each made of parts of the next.
        private static final int EITHER = 0;
        private static final int BOTH = 1;
        private static final int ASK = 2;
        private static final int SUM = 3;
        private static final int PRODUCT = 4;
        private static final int ONE = 5;

        private final Tape tape;
        private Text into;
        private int law;
        private int token;
        private int number;
        private int place;
        private int next;
        private int fault = NONE;
        private int faultPlace = NONE;

        Reader(Tape tape) {
            this.tape = tape;
        }

        int latestFault() {
            return fault;
        }

        int latestPlace() {
            return faultPlace;
        }

        boolean read(Text text) {
            into = text;
            into.clear();
            fault = 0;
            faultPlace = NONE;
            next = 0;
            advance();
            for (int i = 0; token != END && i < MOST_BYTES; i++) {
                if (!clause()) {
                    return false;
                }
            }
            return true;
        }

        private boolean clause() {
            int kind = token;
            if (kind > PASS) {
                return fail(1);
            }
            if (into.clauseOf(kind) != NONE) {
                return fail(4);
            }
            if (into.isFull()) {
                return fail(6);
            }
            advance();
            if (kind > FALLS) {
                return deed(kind);
            }
            law = kind;
            int from = into.codeLength();
            if (!joined(kind == FALLS ? EITHER : SUM, 0)) {
                return false;
            }
            into.addClause(kind, from, into.codeLength());
            return expect(STOP);
        }

        /** A deed has one number, or a word and a plinth behind it. */
        private boolean deed(int kind) {
            int most = kind == PASS ? MOST_DAYS_AT_ONCE : kind == PUT ? MOST_HEADS - 1 : MOST_PLINTHS - 1;
            int first = number;
            if (!numberUpTo(most)) {
                return false;
            }
            int second = NONE;
            if (kind == PUT || kind == CHANGE) {
                if (!expect(kind == PUT ? ON : WITH)) {
                    return false;
                }
                second = number;
                if (!numberUpTo(MOST_PLINTHS - 1)) {
                    return false;
                }
            }
            into.addClause(kind, first, second);
            return expect(STOP);
        }

        private boolean numberUpTo(int most) {
            if (token != NUMBER) {
                return fail(1);
            }
            if (number > most) {
                return fail(2);
            }
            advance();
            return true;
        }

        /** Parts of the next level with the signs of this one between them, from the left. */
        private boolean joined(int level, int open) {
            boolean fine = part(level + 1, open);
            for (int i = 0; fine && joins(level) && i < MOST_BYTES; i++) {
                int sign = token;
                advance();
                fine = part(level + 1, open);
                emit(sign);
            }
            return fine;
        }

        private boolean part(int level, int open) {
            if (level == ASK) {
                return ask(open);
            }
            return level == ONE ? one(open) : joined(level, open);
        }

        private boolean joins(int level) {
            return switch (level) {
                case EITHER -> token == OR;
                case BOTH -> token == AND;
                case SUM -> token == PLUS || token == MINUS;
                case PRODUCT -> token == TIMES || token == OVER;
                default -> false;
            };
        }

        private boolean ask(int open) {
            if (token == NOT) {
                if (open >= MOST_OPEN) {
                    return fail(3);
                }
                advance();
                boolean fine = ask(open + 1);
                emit(NOT);
                return fine;
            }
            if (!joined(SUM, open)) {
                return false;
            }
            int sign = token;
            if (!compares(sign)) {
                return fail(1);
            }
            advance();
            boolean fine = joined(SUM, open);
            emit(sign);
            return fine;
        }

        private static boolean compares(int sign) {
            return sign >= LESS && sign <= UNLIKE || sign == AT_MOST || sign == AT_LEAST;
        }

        private boolean one(int open) {
            if (token == NUMBER) {
                into.emit(Math.min(number, MOST_NUMBER));
                return numberUpTo(MOST_NUMBER);
            }
            if (token >= PLINTH && token <= OWES) {
                return named();
            }
            if (token != OPENS && token != MINUS) {
                return fail(1);
            }
            if (open >= MOST_OPEN) {
                return fail(3);
            }
            boolean opens = token == OPENS;
            advance();
            if (opens) {
                return joined(SUM, open + 1) && expect(CLOSES);
            }
            boolean fine = one(open + 1);
            emit(NEGATE);
            return fine;
        }

        private boolean named() {
            boolean ofPrice = token == CLOSE;
            boolean ofAll = token < CLOSE;
            if (!ofAll && ofPrice != (law == PRICE)) {
                return fail(5);
            }
            emit(token);
            advance();
            return true;
        }

        private void emit(int kind) {
            into.emit(FIRST_CODE + kind);
        }

        private boolean expect(int kind) {
            if (token != kind) {
                return fail(1);
            }
            advance();
            return true;
        }

        private boolean fail(int which) {
            fault = which;
            faultPlace = place;
            return false;
        }

        private void advance() {
            while (next < tape.length() && (tape.at(next) == ' ' || tape.at(next) == '\n')) {
                next++;
            }
            place = next;
            int first = tape.at(place);
            if (first == NONE) {
                token = END;
            } else if (isLetter(first)) {
                word();
            } else if (isDigit(first)) {
                digits();
            } else {
                sign((char) first);
            }
        }

        private void word() {
            while (next < tape.length() && isLetter(tape.at(next))) {
                next++;
            }
            token = NO_TOKEN;
            int kind = 0;
            int alike = 0;
            int from = 0;
            for (int i = 0; i < WORDS.length() && token == NO_TOKEN; i++) {
                char sign = WORDS.charAt(i);
                if (sign != ' ') {
                    alike += sign == tape.at(place + i - from) ? 1 : 0;
                } else {
                    if (alike == i - from && alike == next - place) {
                        token = kind;
                    }
                    kind++;
                    alike = 0;
                    from = i + 1;
                }
            }
        }

        private void digits() {
            token = NUMBER;
            number = 0;
            while (next < tape.length() && isDigit(tape.at(next))) {
                // Held just above the most, so that a long row of digits can't run over.
                number = Math.min(number * 10 + tape.at(next) - '0', MOST_NUMBER + 1);
                next++;
            }
        }

        private void sign(char first) {
            next++;
            int which = SIGNS.indexOf(first);
            token = which < 0 ? NO_TOKEN : FIRST_SIGN + which;
            if ((token == LESS || token == MORE) && tape.at(next) == '=') {
                next++;
                token = token == LESS ? AT_MOST : AT_LEAST;
            }
        }

        private static boolean isLetter(int sign) {
            return sign >= 'a' && sign <= 'z' || sign >= 'A' && sign <= 'Z';
        }

        private static boolean isDigit(int sign) {
            return sign >= '0' && sign <= '9';
        }
    }

    /** What the text that rules says of a plinth and a head on it, whether it stands there or not. */
    private static final class Judge {
        // Each ( that is open leaves two values waiting, an ask, a both and an either one each: 22 at most.
        private static final int STACK = 40;

        private final Told told;
        private final Moment now;
        private final Text[] texts;
        private final int[] stack = new int[STACK];

        Judge(Told told, Moment now, Text[] texts) {
            this.told = told;
            this.now = now;
            this.texts = texts;
        }

        /** What a law tells, within its bounds; of falls 1 or 0. */
        int amount(int law, int plinth, int head) {
            int ruling = told.ruling();
            if (!told.isText(ruling)) {
                return law == DUE ? 1 : 0;
            }
            Text text = texts[ruling];
            int clause = text.clauseOf(law);
            if (clause == NONE) {
                return law == DUE ? 1 : 0;
            }
            int amount = reckon(text, clause, plinth, head);
            if (amount < 0) {
                return 0;
            }
            return amount > MOST_AMOUNT ? MOST_AMOUNT : amount;
        }

        private int reckon(Text text, int clause, int plinth, int head) {
            int top = 0;
            for (int i = text.first(clause); i < text.second(clause); i++) {
                int code = text.codeAt(i);
                int kind = code - FIRST_CODE;
                int takes = takes(kind);
                if (top < takes || top - takes >= STACK) {
                    return 0;
                }
                top -= takes;
                if (takes == 2) {
                    stack[top] = joined(kind, stack[top], stack[top + 1]);
                } else if (takes == 1) {
                    stack[top] = kind == NOT ? 1 - stack[top] : -stack[top];
                } else {
                    stack[top] = kind < 0 ? code : named(kind, plinth, head);
                }
                top++;
            }
            return top > 0 ? stack[top - 1] : 0;
        }

        private static int takes(int kind) {
            if (kind == NOT || kind == NEGATE) {
                return 1;
            }
            boolean joins = kind == OR || kind == AND || kind >= FIRST_SIGN;
            return joins ? 2 : 0;
        }

        private static int joined(int kind, int a, int b) {
            long value = switch (kind) {
                case OR -> a | b;
                case AND -> a & b;
                case LESS -> a < b ? 1 : 0;
                case AT_MOST -> a <= b ? 1 : 0;
                case MORE -> a > b ? 1 : 0;
                case AT_LEAST -> a >= b ? 1 : 0;
                case LIKE -> a == b ? 1 : 0;
                case UNLIKE -> a != b ? 1 : 0;
                case PLUS -> (long) a + b;
                case MINUS -> (long) a - b;
                case TIMES -> (long) a * b;
                case OVER -> b == 0 ? 0 : a / b;
                default -> 0;
            };
            if (value > MOST_OF_A_STEP) {
                return MOST_OF_A_STEP;
            }
            return value < -MOST_OF_A_STEP ? -MOST_OF_A_STEP : (int) value;
        }

        private int named(int kind, int plinth, int head) {
            boolean known = told.isHead(head);
            return switch (kind) {
                case PLINTH -> plinth;
                case SHADE -> told.shadeOf(plinth);
                case VIEW -> told.viewOf(plinth);
                case DAY -> now.day();
                case CLOSE -> told.closeTo(plinth);
                case HEAD -> head;
                case FAME -> known ? told.fameOf(head) : 0;
                case NAME -> now.nameAt(plinth);
                case RIGHT -> now.nameAt(plinth) == head ? 1 : 0;
                case OWES -> known ? now.debt(head) : 0;
                default -> 0;
            };
        }
    }

    /**
     * The best heads for all plinths, as the dearest matching of plinths with heads and as many places
     * of none as there are plinths, found plinth by plinth along the cheapest chains.
     *
     * <p>Which of like placings is meant is part of the weights: a placing is a number of base 13, the
     * head of plinth 0 the highest digit, and all shillings weigh more than any such number.
     */
    private static final class Placing {
        private static final int COLUMNS = MOST_HEADS + MOST_PLINTHS;
        private static final long BASE = MOST_HEADS + 1;
        private static final long SHILLING = BASE * BASE * BASE * BASE * BASE * BASE * BASE * BASE;
        private static final long FAR = 1L << 60;

        private final Told told;
        private final Judge judge;
        private final int[] worth = new int[(MOST_PLINTHS + 1) * (COLUMNS + 1)];
        private final long[] cost = new long[(MOST_PLINTHS + 1) * (COLUMNS + 1)];
        // Rows and columns count from 1; row 0 and column 0 stand for no match yet.
        private final long[] rowPart = new long[MOST_PLINTHS + 1];
        private final long[] columnPart = new long[COLUMNS + 1];
        private final long[] nearest = new long[COLUMNS + 1];
        private final int[] rowOf = new int[COLUMNS + 1];
        private final int[] chain = new int[COLUMNS + 1];
        private final boolean[] used = new boolean[COLUMNS + 1];
        private final int[] chosen = new int[MOST_PLINTHS];
        private int columns;
        private int shillings;

        Placing(Told told, Judge judge) {
            this.told = told;
            this.judge = judge;
        }

        int shillings() {
            return shillings;
        }

        int headFor(int plinth) {
            return chosen[plinth];
        }

        void solve() {
            columns = told.heads() + told.plinths();
            weigh();
            Arrays.fill(rowPart, 0L);
            Arrays.fill(columnPart, 0L);
            Arrays.fill(rowOf, 0);
            for (int row = 1; row <= told.plinths(); row++) {
                match(row);
            }
            shillings = 0;
            for (int column = 1; column <= columns; column++) {
                int row = rowOf[column];
                if (row > 0) {
                    chosen[row - 1] = column <= told.heads() ? column - 1 : NONE;
                    shillings += worth[place(row, column)];
                }
            }
        }

        private static int place(int row, int column) {
            return row * (COLUMNS + 1) + column;
        }

        private void weigh() {
            long digit = SHILLING / BASE;
            for (int plinth = 0; plinth < told.plinths(); plinth++) {
                int price = judge.amount(PRICE, plinth, NONE);
                for (int column = 1; column <= columns; column++) {
                    int head = column - 1;
                    boolean stands = told.isHead(head);
                    int value = stands ? judge.amount(PAYS, plinth, head) - judge.amount(DUE, plinth, head) : price;
                    int at = place(plinth + 1, column);
                    worth[at] = value;
                    cost[at] = (stands ? column * digit : 0) - value * SHILLING;
                }
                digit /= BASE;
            }
        }

        private void match(int row) {
            for (int i = 0; i <= columns; i++) {
                nearest[i] = FAR;
                used[i] = false;
            }
            rowOf[0] = row;
            int column = 0;
            for (int i = 0; i <= columns && rowOf[column] != 0; i++) {
                used[column] = true;
                column = nearestFrom(column);
            }
            for (int i = 0; i <= columns && column != 0; i++) {
                int before = chain[column];
                rowOf[column] = rowOf[before];
                column = before;
            }
        }

        private int nearestFrom(int column) {
            int row = rowOf[column];
            long least = FAR;
            int found = 0;
            for (int other = 1; other <= columns; other++) {
                if (!used[other]) {
                    long left = cost[place(row, other)] - rowPart[row] - columnPart[other];
                    if (left < nearest[other]) {
                        nearest[other] = left;
                        chain[other] = column;
                    }
                    if (nearest[other] < least) {
                        least = nearest[other];
                        found = other;
                    }
                }
            }
            shift(least);
            return found;
        }

        private void shift(long by) {
            for (int column = 0; column <= columns; column++) {
                if (used[column]) {
                    rowPart[rowOf[column]] += by;
                    columnPart[column] -= by;
                } else {
                    nearest[column] -= by;
                }
            }
        }
    }

    /**
     * The fewest changes that explain what was seen. A state says for each of five plinths which one's
     * head of now is there. Plinths without a head are told apart in it, but all orders of them are the
     * start alike, so no change is ever spent on them.
     */
    private static final class Nights {
        private static final int WIDTH = 5;
        private static final int STATES = 120;
        private static final int SWAPS = 10;
        private static final int FAR = 1000;
        private static final int NO_HEAD = 4096;

        private final Told told;
        private final Moment now;
        private final int[] from = new int[STATES * WIDTH];
        private final int[] swapped = new int[STATES * SWAPS];
        private final int[] ahead = new int[STATES];
        private final int[] behind = new int[STATES];
        private final int[] scratch = new int[WIDTH];
        private boolean made;
        private int fewest;

        Nights(Told told, Moment now) {
            this.told = told;
            this.now = now;
        }

        /** The fewest changes, or NONE; headsAt answers for this night then. */
        int search(int night) {
            if (told.plinths() > WIDTH) {
                return NONE;
            }
            if (!made) {
                makeStates();
                made = true;
            }
            for (int state = 0; state < STATES; state++) {
                ahead[state] = looksAsNow(state) ? 0 : FAR;
                behind[state] = 0;
            }
            for (int i = 1; i <= night; i++) {
                spread(ahead);
                keepSeen(ahead, i);
            }
            for (int i = NIGHTS; i > night; i--) {
                keepSeen(behind, i);
                spread(behind);
            }
            fewest = FAR;
            for (int state = 0; state < STATES; state++) {
                fewest = Math.min(fewest, ahead[state] + behind[state]);
            }
            return fewest < FAR ? fewest : NONE;
        }

        int headsAt(int plinth) {
            int bits = 0;
            for (int state = 0; state < STATES; state++) {
                if (ahead[state] + behind[state] == fewest) {
                    int head = headIn(state, plinth);
                    bits |= head == NONE ? NO_HEAD : 1 << head;
                }
            }
            return bits;
        }

        private int headIn(int state, int plinth) {
            return now.headAt(from[state * WIDTH + plinth]);
        }

        private boolean looksAsNow(int state) {
            for (int plinth = 0; plinth < WIDTH; plinth++) {
                boolean itself = from[state * WIDTH + plinth] == plinth;
                if (!itself && (plinth >= told.plinths() || headIn(state, plinth) != now.headAt(plinth))) {
                    return false;
                }
            }
            return true;
        }

        private void keepSeen(int[] changes, int night) {
            for (int sight = 0; sight < told.countSeen(); sight++) {
                if (told.nightSeen(sight) == night) {
                    int plinth = told.plinthSeen(sight);
                    for (int state = 0; state < STATES; state++) {
                        if (told.chinOf(headIn(state, plinth)) != told.chinSeen(sight)) {
                            changes[state] = FAR;
                        }
                    }
                }
            }
        }

        /**
         * Lets any changes happen. One pass is enough: each order comes of any other by its fewest swaps
         * so that the higher plinths of these swaps rise from one to the next.
         */
        private void spread(int[] changes) {
            for (int high = 1; high < told.plinths(); high++) {
                for (int low = 0; low < high; low++) {
                    int swap = swapOf(low, high);
                    for (int state = 0; state < STATES; state++) {
                        int by = changes[swapped[state * SWAPS + swap]] + 1;
                        if (by < changes[state]) {
                            changes[state] = by;
                        }
                    }
                }
            }
        }

        private static int swapOf(int low, int high) {
            return high * (high - 1) / 2 + low;
        }

        private void makeStates() {
            for (int state = 0; state < STATES; state++) {
                write(state);
                System.arraycopy(scratch, 0, from, state * WIDTH, WIDTH);
            }
            for (int state = 0; state < STATES; state++) {
                for (int high = 1; high < WIDTH; high++) {
                    for (int low = 0; low < high; low++) {
                        System.arraycopy(from, state * WIDTH, scratch, 0, WIDTH);
                        swapScratch(low, high);
                        swapped[state * SWAPS + swapOf(low, high)] = numberOfScratch();
                    }
                }
            }
        }

        /** A state's number has a digit for each plinth but 0: which lower one, or itself, it swaps with. */
        private void write(int state) {
            for (int plinth = 0; plinth < WIDTH; plinth++) {
                scratch[plinth] = plinth;
            }
            int rest = state;
            for (int plinth = 1; plinth < WIDTH; plinth++) {
                swapScratch(rest % (plinth + 1), plinth);
                rest /= plinth + 1;
            }
        }

        /** Undoes the swaps of write, the latest first, and spoils the scratch row. */
        private int numberOfScratch() {
            int number = 0;
            for (int plinth = WIDTH - 1; plinth > 0; plinth--) {
                int place = 0;
                for (int i = 1; i <= plinth; i++) {
                    if (scratch[i] == plinth) {
                        place = i;
                    }
                }
                swapScratch(place, plinth);
                number = number * (plinth + 1) + place;
            }
            return number;
        }

        private void swapScratch(int one, int other) {
            int kept = scratch[one];
            scratch[one] = scratch[other];
            scratch[other] = kept;
        }
    }

    /** Tries the tours in the order that decides between like ones, so the first of like ones stays. */
    private static final class Walk {
        private final Told told;
        private final int[] apart = new int[MOST_PLINTHS * MOST_PLINTHS];
        private final int[] path = new int[MOST_PLINTHS];
        private final int[] found = new int[MOST_PLINTHS];
        private int limit;
        private int foundLength;
        private int foundView;
        private int foundMiles;

        Walk(Told told) {
            this.told = told;
        }

        int foundView() {
            return foundView;
        }

        int foundMiles() {
            return foundMiles;
        }

        int foundPlinth(int i) {
            return i >= 0 && i < foundLength ? found[i] : NONE;
        }

        void find(int from, int miles) {
            limit = miles;
            foundLength = 0;
            foundView = NONE;
            foundMiles = 0;
            for (int one = 0; one < told.plinths(); one++) {
                for (int other = 0; other < told.plinths(); other++) {
                    apart[one * MOST_PLINTHS + other] = told.milesApart(one, other);
                }
            }
            path[0] = from;
            goOn(1, 1 << from, 0, told.viewOf(from));
        }

        private void goOn(int length, int visited, int miles, int view) {
            if (view > foundView || view == foundView && miles < foundMiles) {
                System.arraycopy(path, 0, found, 0, length);
                foundLength = length;
                foundView = view;
                foundMiles = miles;
            }
            if (length >= MOST_PLINTHS || !canBeBetter(path[length - 1], visited, miles, view)) {
                return;
            }
            int row = path[length - 1] * MOST_PLINTHS;
            for (int next = 0; next < told.plinths(); next++) {
                int then = miles + apart[row + next];
                if ((visited & 1 << next) == 0 && then <= limit) {
                    path[length] = next;
                    goOn(length + 1, visited | 1 << next, then, view + told.viewOf(next));
                }
            }
        }

        /** No way round is shorter than the straight one, so what is too far now stays too far. */
        private boolean canBeBetter(int last, int visited, int miles, int view) {
            int hope = view;
            for (int next = 0; next < told.plinths(); next++) {
                if ((visited & 1 << next) == 0 && miles + apart[last * MOST_PLINTHS + next] <= limit) {
                    hope += told.viewOf(next);
                }
            }
            return hope > foundView || hope == foundView && miles < foundMiles;
        }
    }

    /**
     * A keeper's best rounds. Cleaning on a day spares what lay there on that day and on all behind it,
     * so the least dirt is what would lie without a keeper less the most that can be spared.
     */
    private static final class Keeper {
        private final int[] birds = new int[MOST_PLINTHS];
        private final int[] cleaned = new int[MOST_PLINTHS];
        private final int[] path = new int[MOST_ROUNDS];
        private final int[] found = new int[MOST_ROUNDS];
        // What all days from one on can spare at most.
        private final int[] hope = new int[MOST_ROUNDS + 1];
        private int plinths;
        private int days;
        private int mostSpared;

        void start(int newPlinths) {
            plinths = newPlinths;
        }

        void expect(int plinth, int newBirds) {
            birds[plinth] = newBirds;
        }

        int cleanedOn(int day) {
            return found[day];
        }

        int leastDirt() {
            int daily = 0;
            for (int plinth = 0; plinth < plinths; plinth++) {
                daily += birds[plinth];
            }
            return daily * days * (days + 1) / 2 - mostSpared;
        }

        void plan(int newDays) {
            days = newDays;
            mostSpared = NONE;
            int most = 0;
            for (int plinth = 0; plinth < plinths; plinth++) {
                most = Math.max(most, birds[plinth]);
                cleaned[plinth] = NONE;
            }
            hope[days] = 0;
            for (int day = days - 1; day >= 0; day--) {
                hope[day] = hope[day + 1] + most * (day + 1) * (days - day);
            }
            clean(0, 0);
        }

        private void clean(int day, int spared) {
            if (spared + hope[day] <= mostSpared) {
                return;
            }
            if (day >= days) {
                mostSpared = spared;
                System.arraycopy(path, 0, found, 0, days);
                return;
            }
            for (int plinth = 0; plinth < plinths; plinth++) {
                int before = cleaned[plinth];
                path[day] = plinth;
                cleaned[plinth] = day;
                clean(day + 1, spared + birds[plinth] * (day - before) * (days - day));
                cleaned[plinth] = before;
            }
        }
    }
}
