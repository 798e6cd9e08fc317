import java.util.NoSuchElementException;
import java.util.Random;

/** Calls with any numbers at all: nothing is thrown but what the document names, and refused calls change nothing. */
public final class WildCallsTest {
    private static final Checks CHECKS = new Checks("WildCallsTest");
    private static final int[] EDGES = {Integer.MIN_VALUE, Integer.MIN_VALUE + 1, -65, -3, -2, -1, 0, 1, 2, 3, 4, 5, 7,
        8, 9, 10, 13, 15, 16, 20, 23, 24, 63, 64, 99, 900, 999, 1000, 1 << 26, 1 << 30, Integer.MAX_VALUE - 1,
        Integer.MAX_VALUE};
    private static final String[] FILMS = {"", "size 1 1;frame h;", "size 8 8;frame a32p32;frame h64;frame i64;spread;",
        "frame a4d4i4m4;frame b4e4j4n4;frame a4d4i4m4;keyed;border 20;cut 2;", fullFilm("spread;"),
        fullFilm("keyed;"), fullFilm("black 2;white 13;step 1;border 30;")};

    private WildCallsTest() {
    }

    private static String fullFilm(String head) {
        StringBuilder text = new StringBuilder("size 8 8;radius 3;").append(head);
        for (int t = 0; t < 24; t++) {
            text.append("frame ").append((char) ('a' + t % 7)).append("30").append((char) ('g' + t % 5)).append("34;");
        }
        return text.toString();
    }

    public static void main(String[] args) {
        for (int run = 0; run < 1400; run++) {
            Random random = new Random(run);
            FlickerDesk desk = Checks.desk(FILMS[run % FILMS.length]);
            for (int call = 0; call < 400; call++) {
                oneCall(run, random, desk);
            }
        }
        CHECKS.end();
    }

    private static int any(Random random) {
        return switch (random.nextInt(5)) {
            case 0 -> EDGES[random.nextInt(EDGES.length)];
            case 1 -> random.nextInt();
            default -> random.nextInt(27) - 2;
        };
    }

    private static void oneCall(int run, Random random, FlickerDesk desk) {
        int kind = random.nextInt(35);
        int a = any(random);
        int b = any(random);
        int c = any(random);
        boolean evened = random.nextBoolean();
        String call = "run " + run + " kind " + kind + " of " + a + ", " + b + ", " + c;
        long before = digest(desk);
        int answer;
        try {
            answer = kind < 9 ? change(kind, desk, a, b, c) : ask(kind, desk, a, b, c, evened);
        } catch (NoSuchElementException e) {
            CHECKS.due(call + " throws", kind, 34);
            return;
        } catch (RuntimeException e) {
            CHECKS.complain(call + " throws " + e);
            return;
        }
        if (kind < 9 && kind != 1 ? answer >= -5 && answer < -1 : kind >= 9) {
            CHECKS.due(call + " changed something", digest(desk), before);
        } else {
            CHECKS.due(call, answer >= -36 ? 1 : 0, 1);
        }
    }

    private static int change(int kind, FlickerDesk desk, int a, int b, int c) {
        return switch (kind) {
            case 0 -> desk.feed(a, b, c, a, b);
            case 1 -> desk.tell(Math.abs(a) % 7 == 0 ? a : 2000);
            case 2 -> desk.set(a, b);
            case 3 -> desk.weight(a, b);
            case 4 -> desk.cut(a);
            case 5 -> desk.skip(a);
            case 6 -> desk.dot(a, b, c);
            case 7 -> desk.take();
            default -> desk.undo();
        };
    }

    private static int ask(int kind, FlickerDesk desk, int a, int b, int c, boolean evened) {
        return switch (kind) {
            case 9 -> desk.fault(a);
            case 10 -> desk.level(a, b, c);
            case 11 -> desk.frame(a, b);
            case 12 -> desk.apart(a, b, evened);
            case 13 -> desk.scene(a);
            case 14 -> desk.rank(a, b);
            case 15 -> desk.inverse(a, b);
            case 16 -> desk.flicker(evened);
            case 17 -> desk.steady(a);
            case 18 -> desk.bestRadius();
            case 19 -> desk.leastStep(a);
            case 20 -> desk.flash(a, b);
            case 21 -> desk.period();
            case 22 -> desk.rounds(a);
            case 23 -> desk.settles();
            case 24 -> desk.key(a);
            case 25 -> desk.parted(a, b);
            case 26 -> desk.shift(a, b);
            case 27 -> desk.alike(a);
            case 28 -> desk.nearest(a);
            case 29 -> desk.kinds(evened);
            case 30 -> desk.fitted(a, b, c);
            case 31 -> desk.lost(a);
            case 32 -> desk.setting(a);
            case 33 -> desk.count(a);
            default -> desk.shade(a, b, evened);
        };
    }

    /** One number of all that a desk holds and that calls can change. */
    private static long digest(FlickerDesk desk) {
        long sum = desk.fault(0) * 31 + desk.fault(1);
        for (int what = 0; what < 14; what++) {
            sum = sum * 31 + desk.count(what);
            sum = sum * 31 + desk.setting(what);
        }
        int size = desk.count(0) * desk.count(1);
        for (int t = 0; t < desk.count(2); t++) {
            sum = sum * 31 + desk.frame(t, 2) + 7 * desk.frame(t, 3);
            for (int place = 0; place < size; place++) {
                sum = sum * 31 + desk.shade(t, place, false);
            }
        }
        return sum;
    }
}
