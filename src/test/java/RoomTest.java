import java.lang.management.ManagementFactory;

/** No call makes anything: all rows are made with the object, and these are few. */
public final class RoomTest {
    private static final int CALLS = 512;
    private static final long MOST_OF_AN_OBJECT = 60_000;
    private static final long MOST_OF_ALL_CALLS = 2_000;
    private static int wrong = 0;
    private static int sink = 0;

    private static long made() {
        com.sun.management.ThreadMXBean bean = (com.sun.management.ThreadMXBean) ManagementFactory.getThreadMXBean();
        return bean.getThreadAllocatedBytes(Thread.currentThread().getId());
    }

    private static void atMost(String what, long bytes, long most) {
        if (bytes > most) {
            wrong++;
            System.out.println(what + " made " + bytes + " bytes, at most " + most + " are due");
        }
    }

    private static void call(StatuesWhoOwe x, int kind, int i) {
        sink += switch (kind) {
            case 0 -> x.best(i % 9 - 1);
            case 1 -> x.who(i % 9, i % 5);
            case 2 -> x.fewest();
            case 3 -> x.tour(i % 5, 100 + i, i % 9);
            case 4 -> x.rounds(5, i % 5);
            case 5 -> x.revolution(i, 99);
            case 6 -> x.pass(1);
            case 7 -> x.undo() + x.image() + x.back();
            case 8 -> x.feed(0x64756520, 0x66616d65, 0x2b28312a, 0x2d283229, 0x293b2020);
            case 9 -> x.end(20);
            case 10 -> x.text() + x.fault(0) + x.back();
            case 11 -> x.played(0);
            case 12 -> x.of(i % 5, i % 7) + x.headOf(i % 12, i % 4) + x.about(i % 30);
            case 13 -> x.stood(i % 12, i % 12) + x.longest(i % 12);
            case 14 -> x.seen(1 + i % 8, i % 5, i % 4) + x.forget();
            default -> (x.put(i % 12, i % 5) ? 1 : 0) + x.off(i % 5) + (x.change(i % 5, 1) ? 1 : 0)
                    + (x.carve(i % 5, i % 12) ? 1 : 0) + x.pay(i % 12, 1) + (x.by(0) ? 1 : 0);
        };
    }

    private static StatuesWhoOwe square() {
        StatuesWhoOwe x = new StatuesWhoOwe();
        for (int i = 0; i < 5; i++) {
            x.plinth(i * 17 % 100, i * 31 % 100, i, 9 - i);
        }
        for (int i = 0; i < 12; i++) {
            x.head(i % 10, i % 4);
            x.put(i, i);
        }
        x.feed(0x62697264, 0x73206661, 0x6d652b31, 0x3b706173, 0x7320313b);
        x.text();
        x.by(0);
        x.image();
        return x;
    }

    public static void main(String[] args) {
        made();
        StatuesWhoOwe first = square();
        for (int kind = 0; kind < 16; kind++) {
            call(first, kind, 1);
        }
        long before = made();
        StatuesWhoOwe x = new StatuesWhoOwe();
        atMost("a new object", made() - before, MOST_OF_AN_OBJECT);
        for (int kind = 0; kind < 16; kind++) {
            x = square();
            before = made();
            for (int i = 0; i < CALLS; i++) {
                call(x, kind, i);
            }
            long by = made() - before;
            atMost(CALLS + " calls of kind " + kind, by, MOST_OF_ALL_CALLS);
        }
        System.out.println(wrong == 0 ? "the room is small" : wrong + " make too much");
        if (wrong != 0) {
            System.exit(1);
        }
    }
}
