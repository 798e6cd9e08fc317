import java.util.NoSuchElementException;

/** Each promise by itself, with answers worked out by hand from the document. */
public final class PromisesTest {
    private static final Checks CHECKS = new Checks("PromisesTest");
    private static final int NONE = FlickerDesk.NONE;
    /** Two frames alike and a lighter one between them. */
    private static final String BLINK = "size 4 1;frame c2h2;frame d2i2;frame c2h2;";

    private PromisesTest() {
    }

    public static void main(String[] args) {
        p1NewObject();
        p2Feed();
        p3Tell();
        p4Fault();
        p5Set();
        p6Weight();
        p7Cut();
        p8Skip();
        p9Dot();
        p10Take();
        p11Undo();
        p12Shade();
        p13Level();
        p13Bounds();
        p14Frame();
        p15Apart();
        p16Scene();
        p17Rank();
        p18Inverse();
        p19Flicker();
        p20Steady();
        p21BestRadius();
        p22LeastStep();
        p23Flash();
        p24Period();
        p25Rounds();
        p26Settles();
        p27Key();
        p28Parted();
        p29Shift();
        p30Alike();
        p31Nearest();
        p32Kinds();
        p33Fitted();
        p34Lost();
        p35Setting();
        p36Count();
        CHECKS.end();
    }

    private static void due(String call, int got, int want) {
        CHECKS.due(call, got, want);
    }

    private static FlickerDesk desk(String text) {
        return Checks.desk(text);
    }

    private static FlickerDesk dots(String head, String shades) {
        return Checks.dots(head, shades);
    }

    private static int thrown(FlickerDesk d, int frame, int place, boolean evened) {
        try {
            d.shade(frame, place, evened);
            return 0;
        } catch (NoSuchElementException e) {
            return 1;
        }
    }

    private static void p1NewObject() {
        FlickerDesk d = new FlickerDesk();
        due("1 NONE", FlickerDesk.NONE, -1);
        due("1 wide", d.count(0), 4);
        due("1 high", d.count(1), 4);
        due("1 frames", d.count(2), 0);
        due("1 scenes", d.scene(NONE), 0);
        due("1 fault", d.fault(0), 0);
        due("1 place", d.fault(1), NONE);
        due("1 acts", d.undo(), -5);
    }

    private static void p2Feed() {
        FlickerDesk d = new FlickerDesk();
        due("2 first", d.feed(0x73746570, 0x20373B72, 0x61646975, 0x7320333B, 0xFF000001), 20);
        due("2 highest bytes first", d.tell(16), 0);
        due("2 step", d.setting(3), 7);
        due("2 radius", d.setting(0), 3);
        for (int i = 1; i <= 45; i++) {
            due("2 feed " + i, d.feed(0x20202020, 0x20202020, 0x20202020, 0x20202020, 0x20202020), 20 * i);
        }
        due("2 too many", d.feed(0, 0, 0, 0, 0), -4);
        due("2 still 900", d.count(6), 900);
        due("2 all of it", d.tell(900), 0);
        due("2 a byte above 127", d.feed(0x80000000, 0, 0, 0, 0), 20);
        due("2 is another byte", d.tell(1), -31);
        due("2 at 0", d.fault(1), 0);
    }

    private static void p3Tell() {
        FlickerDesk d = new FlickerDesk();
        Checks.feed(d, BLINK);
        due("3 below 0", d.tell(-1), -3);
        due("3 above what there is", d.tell(61), -3);
        due("3 far above", d.tell(Integer.MAX_VALUE), -3);
        due("3 the tape stays", d.count(6), 60);
        due("3 part of it", d.tell(31 - 1), -31);
        due("3 the tape is empty", d.count(6), 0);
        due("3 frames", Checks.tell(d, BLINK), 3);
        due("3 the tape is empty again", d.count(6), 0);
        d.set(0, 3);
        d.weight(1, 5);
        d.cut(1);
        d.skip(2);
        due("3 in place of all", Checks.tell(d, "frame a16;"), 1);
        int[] counts = {4, 4, 1, 0, 0, 0, 0};
        for (int what = 0; what < counts.length; what++) {
            due("3 count " + what, d.count(what), counts[what]);
        }
        due("3 radius", d.setting(0), 1);
        due("3 weight", d.count(11), 1);
        Checks.feed(d, "frame b16;");
        due("3 no byte", d.tell(0), 0);
        due("3 no frames", d.count(2), 0);
        due("3 no tape", d.count(6), 0);
        String marked = "radius 2;weight 0 3;weight 2 5;frame a16;frame b16;cut 1;skip 0;";
        for (int time = 0; time < 2; time++) {
            due("3 told again", Checks.tell(d, marked), 2);
            due("3 weight told again", d.count(12), 5);
        }
        due("3 without marks", Checks.tell(d, "frame a16;frame b16;"), 2);
        due("3 no skips", d.count(3), 0);
        due("3 no cuts", d.count(4), 0);
        due("3 no weight", d.count(12), 1);
    }

    private static void p4Fault() {
        FlickerDesk d = new FlickerDesk();
        due("4 ahead of any", d.fault(0), 0);
        due("4 place ahead of any", d.fault(1), NONE);
        Checks.tell(d, "step 77;");
        due("4 fault", d.fault(0), 2);
        due("4 place", d.fault(1), 5);
        due("4 others", d.fault(2), NONE);
        due("4 below", d.fault(-1), NONE);
        due("4 a refused tell", d.tell(1), -3);
        due("4 fault stays", d.fault(0), 2);
        due("4 place stays", d.fault(1), 5);
        due("4 of no byte", d.tell(0), 0);
        due("4 no fault", d.fault(0), 0);
        due("4 no place", d.fault(1), NONE);
    }

    private static void p5Set() {
        FlickerDesk d = new FlickerDesk();
        int[] usual = {1, 0, 15, 15, 0, 0};
        int[] most = {3, 15, 15, 15, 999, 2};
        for (int what = 0; what < 6; what++) {
            due("5 below " + what, d.set(what, -1), -3);
            due("5 above " + what, d.set(what, most[what] + 1), -3);
            due("5 was " + what, d.set(what, most[what]), usual[what]);
            due("5 is " + what, d.setting(what), most[what]);
            due("5 acts " + what, d.count(5), what + 1);
        }
        due("5 white below black", d.set(2, 14), -3);
        due("5 black", d.set(1, 6), 15);
        due("5 white as black", d.set(2, 6), 15);
        due("5 black above white", d.set(1, 7), -3);
        due("5 black as it was", d.set(1, 6), 6);
        due("5 no such", d.set(6, 0), -2);
        due("5 below all", d.set(-1, 0), -2);
        due("5 both wrong", d.set(6, -1), -2);
        due("5 an act even if all is as it was", d.count(5), 8);
    }

    private static void p6Weight() {
        FlickerDesk d = new FlickerDesk();
        for (int far = 0; far < 4; far++) {
            due("6 too small", d.weight(far, 0), -3);
            due("6 too great", d.weight(far, 10), -3);
            due("6 was", d.weight(far, 9), 1);
            due("6 again", d.weight(far, 1 + far), 9);
            due("6 is", d.count(10 + far), 1 + far);
        }
        due("6 no such", d.weight(4, 1), -2);
        due("6 below", d.weight(-1, 1), -2);
        due("6 both wrong", d.weight(-1, 0), -2);
        due("6 acts", d.count(5), 8);
        // Target of shade 2: two thirds of 4, downwards; of shade 3: all.
        FlickerDesk e = desk("size 4 1;frame c4;frame d4;");
        due("6 by like weights", e.level(0, 2, 2), 2);
        e.weight(0, 2);
        due("6 by weights", e.level(0, 2, 2), 8 / 3);
        due("6 by weights, the other", e.level(1, 2, 2), 4 / 3);
        due("6 all", e.level(1, 3, 2), 4);
        e.weight(1, 7);
        due("6 by the greater one", e.level(1, 2, 2), 7 * 4 / 9);
    }

    private static void p7Cut() {
        FlickerDesk d = desk("size 1 1;frame a;frame e;frame e;");
        due("7 the first", d.cut(0), -2);
        due("7 none such", d.cut(3), -2);
        due("7 below", d.cut(-1), -2);
        due("7 cut", d.cut(2), 2);
        due("7 begins", d.frame(2, 3), 1);
        due("7 cut more", d.cut(1), 3);
        due("7 cut ones", d.count(4), 2);
        due("7 no more", d.cut(2), 2);
        due("7 begins none", d.frame(2, 3), 0);
        d.set(4, 3);
        due("7 no more, but by the border", d.cut(1), 2);
        due("7 no cut ones", d.count(4), 0);
        due("7 acts", d.count(5), 5);
    }

    private static void p8Skip() {
        FlickerDesk d = desk(BLINK);
        due("8 none such", d.skip(3), -2);
        due("8 below", d.skip(-1), -2);
        due("8 skipped", d.skip(0), 1);
        due("8 skipped more", d.skip(2), 2);
        due("8 is", d.frame(0, 2), 1);
        due("8 window", d.frame(1, 4), 1);
        due("8 no more", d.skip(0), 1);
        due("8 is no more", d.frame(0, 2), 0);
        due("8 acts", d.count(5), 3);
    }

    private static void p9Dot() {
        FlickerDesk d = desk("size 3 2;frame abcdef;frame a6;");
        due("9 had", d.dot(0, 5, 15), 5);
        due("9 has", d.shade(0, 5, false), 15);
        due("9 the other frame", d.shade(1, 5, false), 0);
        due("9 counts", d.level(0, 15, 0), 1);
        due("9 no frame", d.dot(2, 0, 0), -2);
        due("9 no frame below", d.dot(-1, 0, 0), -2);
        due("9 no place", d.dot(0, 6, 0), -2);
        due("9 no place below", d.dot(0, -1, 0), -2);
        due("9 no shade", d.dot(0, 0, 16), -3);
        due("9 no shade below", d.dot(0, 0, -1), -3);
        due("9 all wrong", d.dot(2, 6, 16), -2);
        due("9 place and shade wrong", d.dot(0, 6, 16), -2);
        due("9 acts", d.count(5), 1);
    }

    private static void p10Take() {
        FlickerDesk d = desk(BLINK);
        due("10 changed", d.take(), 8);
        int[] dots = {3, 3, 8, 8};
        for (int t = 0; t < 3; t++) {
            for (int place = 0; place < 4; place++) {
                due("10 dot", d.shade(t, place, false), dots[place]);
            }
        }
        due("10 nothing changed", d.take(), 0);
        due("10 acts all the same", d.count(5), 2);
        due("10 of no frames", new FlickerDesk().take(), 0);
    }

    private static void p11Undo() {
        FlickerDesk d = desk(BLINK);
        due("11 none", d.undo(), -5);
        d.set(0, 3);
        d.weight(2, 4);
        d.cut(1);
        d.skip(1);
        d.dot(1, 2, 9);
        d.take();
        due("11 acts", d.count(5), 6);
        due("11 take", d.undo(), 5);
        due("11 dots again", d.shade(1, 2, false), 9);
        due("11 dot", d.undo(), 4);
        due("11 the dot again", d.shade(1, 2, false), 8);
        due("11 skip", d.undo(), 3);
        due("11 not skipped", d.count(3), 0);
        due("11 cut", d.undo(), 2);
        due("11 not cut", d.scene(NONE), 1);
        due("11 weight", d.undo(), 1);
        due("11 the weight again", d.count(12), 1);
        due("11 set", d.undo(), 0);
        due("11 the radius again", d.setting(0), 1);
        due("11 no more", d.undo(), -5);
        for (int border = 1; border <= 11; border++) {
            d.set(4, border);
        }
        due("11 at most eight", d.count(5), 8);
        for (int left = 7; left >= 0; left--) {
            due("11 one of eight", d.undo(), left);
            due("11 border", d.setting(4), left + 3);
        }
        due("11 older ones not", d.undo(), -5);
        d.set(4, 50);
        due("11 refused calls are no acts", d.set(4, 1000), -3);
        due("11 one act", d.count(5), 1);
        Checks.tell(d, "oops");
        due("11 a faulty text forgets none", d.count(5), 1);
        d.tell(5);
        due("11 a refused tell forgets none", d.count(5), 1);
        Checks.tell(d, BLINK);
        due("11 a text forgets all", d.undo(), -5);
        due("11 undone behind a text", d.setting(4), 0);
    }

    private static void p12Shade() {
        FlickerDesk d = desk(BLINK);
        due("12 as it is", d.shade(0, 0, false), 2);
        due("12 evened", d.shade(0, 0, true), 3);
        due("12 the last", d.shade(2, 3, false), 7);
        int[][] none = {{3, 0}, {-1, 0}, {0, 4}, {0, -1}, {Integer.MAX_VALUE, 0}, {0, Integer.MIN_VALUE}};
        for (int[] at : none) {
            due("12 thrown", thrown(d, at[0], at[1], false), 1);
            due("12 thrown evened", thrown(d, at[0], at[1], true), 1);
        }
        due("12 not thrown", thrown(d, 2, 3, true), 0);
        due("12 no frames", thrown(new FlickerDesk(), 0, 0, false), 1);
        // By rank 0, 1, 3, 2; targets are 1 from c on, 2 from d, 3 from h, 4 from i.
        d.set(5, 1);
        int[] spread = {2, 3, 8, 7};
        for (int place = 0; place < 4; place++) {
            due("12 spread", d.shade(0, place, true), spread[place]);
        }
        // The middle frame is as far from both others as they are from it alone: the first is the key.
        d.set(5, 2);
        int[] keyed = {2, 2, 7, 7};
        for (int place = 0; place < 4; place++) {
            due("12 keyed", d.shade(1, place, true), keyed[place]);
        }
    }

    private static void p13Level() {
        FlickerDesk d = desk(BLINK);
        int[] counts = {0, 0, 2, 0, 0, 0, 0, 2, 0, 0, 0, 0, 0, 0, 0, 0};
        int[] cums = {0, 0, 2, 2, 2, 2, 2, 4, 4, 4, 4, 4, 4, 4, 4, 4};
        int[] targets = {0, 0, 1, 2, 2, 2, 2, 3, 4, 4, 4, 4, 4, 4, 4, 4};
        int[] table = {0, 0, 3, 3, 3, 3, 3, 8, 8, 8, 8, 8, 8, 8, 8, 15};
        int[] then = {0, 0, 0, 2, 0, 0, 0, 0, 2, 0, 0, 0, 0, 0, 0, 0};
        for (int s = 0; s < 16; s++) {
            due("13 count " + s, d.level(0, s, 0), counts[s]);
            due("13 cum " + s, d.level(0, s, 1), cums[s]);
            due("13 target " + s, d.level(0, s, 2), targets[s]);
            due("13 table " + s, d.level(0, s, 3), table[s]);
            due("13 count evened " + s, d.level(0, s, 4), then[s]);
        }
        due("13 no frame", d.level(3, 0, 0), -2);
        due("13 no frame below", d.level(-1, 0, 0), -2);
        due("13 no such what", d.level(0, 0, 5), -2);
        due("13 no such what below", d.level(0, 0, -1), -2);
        due("13 no shade", d.level(0, 16, 0), -3);
        due("13 no shade below", d.level(0, -1, 0), -3);
        due("13 what ahead of the shade", d.level(0, 16, 5), -2);
        d.set(5, 2);
        due("13 target by the key", d.level(1, 2, 2), 2);
        due("13 table by the key", d.level(1, 8, 3), 7);
        d.set(5, 1);
        due("13 target of spread", d.level(0, 2, 2), 1);
        due("13 table is the same by spread", d.level(0, 2, 3), 3);
        due("13 count by spread", d.level(0, 2, 4), 1);
    }

    private static void p13Bounds() {
        // The key is the first frame; f would come to a, and then, with p for a, to p.
        FlickerDesk d = dots("black 3;white 9;keyed;", "af");
        int[] free = {0, 1, 2, 3, 3, 3, 3, 3, 3, 9, 10, 11, 12, 13, 14, 15};
        for (int s = 0; s < 16; s++) {
            due("13 bounded " + s, d.level(1, s, 3), free[s]);
        }
        d.set(3, 1);
        due("13 step down", d.level(1, 5, 3), 4);
        due("13 step down from 8", d.level(1, 8, 3), 7);
        due("13 not below black", d.level(1, 4, 3), 3);
        d.dot(0, 0, 15);
        due("13 step up", d.level(1, 5, 3), 6);
        due("13 step up from 8", d.level(1, 8, 3), 9);
        d.set(3, 15);
        due("13 not above white", d.level(1, 5, 3), 9);
        d.set(3, 0);
        due("13 no step", d.level(1, 5, 3), 5);
        due("13 black", d.level(1, 3, 3), 3);
        due("13 white", d.level(1, 9, 3), 9);
        d.set(3, 15);
        d.set(5, 1);
        d.set(0, 0);
        due("13 spread of itself", d.shade(1, 0, true), 5);
        d.skip(1);
        d.set(0, 1);
        due("13 spread not above white", d.shade(1, 0, true), 9);
        due("13 spread keeps whites", d.shade(0, 0, true), 15);
        d.set(3, 2);
        due("13 spread by steps", d.shade(1, 0, true), 7);
        due("13 spread to the least", dots("spread;", "ac").shade(1, 0, true), 2);
        FlickerDesk e = dots("spread;", "ac");
        e.skip(1);
        due("13 spread to the least of all", e.shade(1, 0, true), 0);
    }

    private static void p14Frame() {
        FlickerDesk d = desk("size 2 2;frame aabp;frame cccc;frame ccdd;frame n4;cut 2;border 10;radius 3;skip 1;");
        int[] means = {16, 8, 10, 52};
        int[] scenes = {0, 1, 2, 3};
        for (int t = 0; t < 4; t++) {
            due("14 mean", d.frame(t, 0), means[t]);
            due("14 scene", d.frame(t, 1), scenes[t]);
            due("14 skipped", d.frame(t, 2), t == 1 ? 1 : 0);
            due("14 begins", d.frame(t, 3), 1);
            due("14 window", d.frame(t, 4), 1);
        }
        int[] shades = {3, 1, 2, 1};
        for (int t = 0; t < 4; t++) {
            due("14 shades", d.frame(t, 5), shades[t]);
        }
        d.set(4, 0);
        d.cut(2);
        for (int t = 0; t < 4; t++) {
            due("14 one scene", d.frame(t, 1), 0);
            due("14 window of all but one", d.frame(t, 4), 3);
        }
        d.set(0, 1);
        int[] windows = {1, 2, 2, 2};
        for (int t = 0; t < 4; t++) {
            due("14 window by radius", d.frame(t, 4), windows[t]);
        }
        d.set(0, 0);
        due("14 alone, though skipped", d.frame(1, 4), 1);
        due("14 evened as it is", d.frame(1, 8), 0);
        FlickerDesk e = desk(BLINK);
        due("14 shades evened", e.frame(0, 6), 2);
        due("14 mean evened", e.frame(0, 7), 22);
        due("14 dots otherwise", e.frame(0, 8), 4);
        due("14 no dots otherwise", e.frame(1, 8), 0);
        e.set(5, 1);
        due("14 shades spread", e.frame(0, 6), 4);
        due("14 mean spread", e.frame(0, 7), 2 + 3 + 8 + 7);
        due("14 dots spread", e.frame(0, 8), 2);
        for (int what : new int[] {-1, 9, 10, Integer.MIN_VALUE}) {
            due("14 no such what", e.frame(0, what), -2);
        }
        due("14 no frame", e.frame(3, 0), -2);
        due("14 no frame below", e.frame(-1, 0), -2);
    }

    private static void p15Apart() {
        FlickerDesk d = desk("size 2 1;frame ab;frame ba;frame pc;");
        due("15 itself", d.apart(2, 2, false), 0);
        due("15 other places", d.apart(0, 1, false), 0);
        // a to c two steps, b to p fourteen.
        due("15 by steps", d.apart(0, 2, false), 16);
        due("15 the other way", d.apart(2, 0, false), 16);
        due("15 no frame", d.apart(3, 0, false), -2);
        due("15 no other", d.apart(0, 3, true), -2);
        due("15 below", d.apart(-1, 0, true), -2);
        due("15 other below", d.apart(0, -1, true), -2);
        FlickerDesk e = desk(BLINK);
        due("15 as they are", e.apart(0, 1, false), 4);
        due("15 evened", e.apart(0, 1, true), 0);
    }

    private static void p16Scene() {
        FlickerDesk d = dots("border 3;", "aeeiim");
        due("16 how many", d.scene(NONE), 4);
        int[] begins = {0, 1, 3, 5};
        for (int k = 0; k < 4; k++) {
            due("16 begins " + k, d.scene(k), begins[k]);
        }
        due("16 not so many", d.scene(4), NONE);
        due("16 below", d.scene(-2), -3);
        d.set(4, 4);
        due("16 not more than the border", d.scene(NONE), 1);
        d.set(4, 0);
        due("16 no border", d.scene(NONE), 1);
        d.cut(2);
        due("16 cut", d.scene(1), 2);
        d.set(4, 1);
        due("16 the least border", d.scene(NONE), 5);
        FlickerDesk e = dots("border 1;", "adgjmpadgjmpadgjmpadgjmp");
        due("16 as many as frames", e.scene(NONE), 24);
        due("16 the last", e.scene(23), 23);
        due("16 the last one's key", e.key(23), 23);
        due("16 the last one's window", e.frame(23, 4), 1);
        due("16 no film", new FlickerDesk().scene(NONE), 0);
        due("16 no film, first", new FlickerDesk().scene(0), NONE);
    }

    private static void ranked(String text, int... ranks) {
        FlickerDesk d = desk(text);
        for (int place = 0; place < ranks.length; place++) {
            due("17 " + text + " " + place, d.rank(0, place), ranks[place]);
        }
    }

    private static void p17Rank() {
        // Round the dots of b: the corner 2 has a, c, i (0 + 2 + 8), the corner 6 d, e, i (3 + 4 + 8).
        FlickerDesk d = desk("size 3 3;frame aab" + "dic" + "bed;frame a9;");
        due("17 by place", d.rank(0, 0), 0);
        due("17 by what is round: 0 + 1 + 3 + 8 + 2", d.rank(0, 1), 1);
        due("17 less round", d.rank(0, 2), 2);
        due("17 more round", d.rank(0, 6), 3);
        due("17 alone", d.rank(0, 5), 4);
        due("17 d below: 2 + 8 + 4", d.rank(0, 8), 6);
        due("17 d at the left: 0 + 0 + 8 + 1 + 4", d.rank(0, 3), 5);
        due("17 e", d.rank(0, 7), 7);
        due("17 last", d.rank(0, 4), 8);
        for (int place = 0; place < 9; place++) {
            due("17 all alike", d.rank(1, place), place);
        }
        ranked("size 3 3;frame bbbbbbbbp;", 0, 3, 1, 4, 7, 5, 2, 6, 8);
        ranked("size 4 1;frame bbcb;", 0, 2, 3, 1);
        ranked("size 1 4;frame bbcb;", 0, 2, 3, 1);
        // The end of a row is not beside the beginning of the next.
        ranked("size 3 2;frame bbbpcc;", 1, 2, 0, 5, 4, 3);
        ranked("size 3 2;frame ccpbbb;", 3, 4, 5, 0, 2, 1);
        ranked("size 1 1;frame h;", 0);
        due("17 no place", d.rank(0, 9), -2);
        due("17 no place below", d.rank(0, -1), -2);
        due("17 no frame", d.rank(2, 0), -2);
        due("17 no frame below", d.rank(-1, 0), -2);
    }

    private static void p18Inverse() {
        FlickerDesk d = desk("size 2 1;keyed;frame ee;frame bc;");
        due("18 least", d.inverse(1, 0), 0);
        due("18 one", d.inverse(1, 1), 1);
        due("18 four", d.inverse(1, 4), 1);
        due("18 five", d.inverse(1, 5), 15);
        due("18 last", d.inverse(1, 15), 15);
        due("18 no shade", d.inverse(0, 16), -3);
        due("18 no shade below", d.inverse(0, -1), -3);
        due("18 no frame", d.inverse(2, 0), -2);
        due("18 no frame below", d.inverse(-1, 0), -2);
        due("18 both wrong", d.inverse(2, 16), -2);
    }

    private static void p19Flicker() {
        FlickerDesk d = desk(BLINK);
        due("19 ahead", d.flicker(false), 8);
        due("19 then", d.flicker(true), 0);
        d.cut(2);
        due("19 scenes do not count", d.flicker(false), 4);
        d.set(3, 0);
        due("19 no step, no change", d.flicker(true), 4);
        due("19 no film", new FlickerDesk().flicker(true), 0);
        // Evened they are e, e, k: no more than the border apart, but the scenes are those of the film.
        FlickerDesk e = dots("border 6;", "edk");
        due("19 two scenes", e.scene(NONE), 2);
        due("19 the first one only", e.flicker(false), 1);
        due("19 scenes as of the film", e.flicker(true), 0);
    }

    private static void p20Steady() {
        FlickerDesk d = desk(BLINK);
        due("20 not", d.steady(0), 0);
        due("20 is", d.steady(1), 1);
        due("20 no frame", d.steady(3), -2);
        due("20 below", d.steady(-1), -2);
        d.set(3, 0);
        due("20 by no step", d.steady(0), 1);
    }

    private static void p21BestRadius() {
        FlickerDesk d = desk(BLINK);
        due("21 one", d.bestRadius(), 1);
        d.set(0, 3);
        due("21 whatever it is", d.bestRadius(), 1);
        due("21 and it stays", d.setting(0), 3);
        due("21 no act", d.count(5), 1);
        d.set(5, 2);
        due("21 of like ones the least", d.bestRadius(), 0);
        due("21 none", dots("", "ae").bestRadius(), 0);
        // A frame of one dot becomes as the lightest of its window.
        due("21 two", dots("", "emn").bestRadius(), 2);
        due("21 three", dots("", "pdcf").bestRadius(), 3);
        due("21 no film", new FlickerDesk().bestRadius(), 0);
    }

    private static void p22LeastStep() {
        FlickerDesk d = desk(BLINK);
        due("22 nothing to do", d.leastStep(8), 0);
        due("22 one", d.leastStep(7), 1);
        due("22 none left", d.leastStep(0), 1);
        due("22 below", d.leastStep(-1), -3);
        d.set(3, 0);
        due("22 whatever it is", d.leastStep(0), 1);
        due("22 and it stays", d.setting(3), 0);
        // Five steps from one to the other; both are kept, if they are black or white.
        FlickerDesk e = dots("", "ch");
        due("22 five steps", e.leastStep(0), 5);
        due("22 four steps", e.leastStep(1), 4);
        e.set(1, 2);
        e.set(2, 7);
        due("22 none does", e.leastStep(4), NONE);
        due("22 as it is", e.leastStep(5), 0);
    }

    private static void p23Flash() {
        FlickerDesk d = dots("", "chccjdd");
        due("23 how many", d.flash(3, NONE), 2);
        due("23 first", d.flash(3, 0), 1);
        due("23 second", d.flash(3, 1), 4);
        due("23 not so many", d.flash(3, 2), NONE);
        due("23 further than 5", d.flash(5, NONE), 1);
        due("23 the greater one", d.flash(5, 0), 4);
        due("23 none further than 6", d.flash(6, NONE), 0);
        // Ahead c, behind d: these two are apart by one.
        due("23 not, if its neighbours are", d.flash(0, NONE), 1);
        due("23 not the second", d.flash(0, 0), 1);
        due("23 a number below 0", d.flash(-1, 0), -3);
        due("23 k below", d.flash(0, -2), -3);
        d.cut(4);
        due("23 begins a scene", d.flash(3, NONE), 1);
        d.cut(4);
        d.cut(5);
        due("23 the next one does", d.flash(3, NONE), 1);
        d.cut(5);
        d.cut(3);
        due("23 the one ahead may", d.flash(3, NONE), 2);
        FlickerDesk e = dots("", "fie");
        due("23 the last but one", e.flash(2, 0), 1);
        due("23 just as far from the one ahead", e.flash(3, NONE), 0);
        due("23 just as far from the next one", dots("", "eif").flash(3, NONE), 0);
        due("23 darker", dots("", "iej").flash(3, NONE), 1);
        due("23 no film", new FlickerDesk().flash(0, NONE), 0);
        due("23 two frames", dots("", "ap").flash(0, NONE), 0);
    }

    private static void p24Period() {
        due("24 no film", new FlickerDesk().period(), NONE);
        due("24 one", dots("", "a").period(), NONE);
        due("24 two", dots("", "ap").period(), 1);
        due("24 of like ones the least", dots("", "eeee").period(), 1);
        due("24 two by two", dots("", "adada").period(), 2);
        due("24 three", dots("", "abgabgab").period(), 3);
        due("24 eight", dots("", "apbocndmap").period(), 8);
        // By nine the only couple would be alike; by one they are apart 16 by 9, by more further.
        due("24 nine is too far", dots("", "abcdefghia").period(), 1);
        // 5 by 3, 3 by 2, 1 by 1.
        due("24 in the mean", dots("", "fhfe").period(), 3);
    }

    private static void p25Rounds() {
        FlickerDesk d = desk(BLINK);
        due("25 none", d.rounds(0), 8);
        due("25 one", d.rounds(1), 0);
        due("25 ten", d.rounds(10), 0);
        due("25 too many", d.rounds(11), -3);
        due("25 below", d.rounds(-1), -3);
        due("25 nothing is done", d.flicker(false), 8);
        due("25 no act", d.count(5), 0);
        // Twelve steps to p, one at a time.
        FlickerDesk e = dots("step 1;", "pd");
        for (int n = 0; n <= 10; n++) {
            due("25 step by step " + n, e.rounds(n), 12 - n);
        }
        // e, e, k is one scene, as the second take() finds: e, k, k; then k, k, k.
        FlickerDesk f = dots("border 6;", "edk");
        int[] flickers = {1, 6, 6, 0, 0};
        for (int n = 0; n < flickers.length; n++) {
            due("25 scenes anew " + n, f.rounds(n), flickers[n]);
        }
    }

    private static void p26Settles() {
        due("26 no film", new FlickerDesk().settles(), 0);
        due("26 at once", dots("", "nn").settles(), 0);
        due("26 one", desk(BLINK).settles(), 1);
        FlickerDesk d = dots("step 1;", "pd");
        due("26 twelve", d.settles(), 12);
        due("26 nothing is done", d.shade(1, 0, false), 3);
        due("26 no act", d.count(5), 0);
        due("26 twenty", desk("size 4 1;step 1;border 21;weight 0 4;frame ciap;frame bfae;frame dcif;frame pgmo;")
                .settles(), 20);
        due("26 twenty-one", desk("size 1 2;step 1;radius 1;keyed;frame am;frame jj;frame fo;frame bb;").settles(),
                NONE);
        due("26 more", desk("size 1 2;radius 1;step 1;keyed;frame bb;frame jj;frame bp;").settles(), NONE);
    }

    private static void p27Key() {
        FlickerDesk d = dots("", "aebpkl");
        // e and k are both apart from all of them by 31.
        due("27 of all", d.key(0), 1);
        d.cut(3);
        // a, e, b: 5, 7, 4. p, k, l: 9, 6, 5.
        due("27 of the first", d.key(0), 2);
        due("27 of the second", d.key(1), 5);
        d.skip(2);
        due("27 skipped or not", d.key(0), 2);
        due("27 no such", d.key(2), -2);
        due("27 below", d.key(-1), -2);
        due("27 of like ones the first", dots("", "cb").key(0), 0);
        due("27 no film", new FlickerDesk().key(0), -2);
    }

    private static void p28Parted() {
        FlickerDesk d = dots("", "abbkklp");
        // The middle ones of seven: 0 1 1 10 10 11 15.
        due("28 one row", d.parted(1, NONE), 10 + 9 + 9 + 0 + 0 + 1 + 5);
        due("28 two rows", d.parted(2, NONE), 1 + 6);
        due("28 the second begins", d.parted(2, 1), 3);
        due("28 three rows", d.parted(3, NONE), 1 + 1);
        due("28 the third begins", d.parted(3, 2), 6);
        // Four rows cost 1: the first is a alone, or the last but one l alone.
        due("28 four rows", d.parted(4, NONE), 1);
        due("28 of like ones the first", d.parted(4, 1), 1);
        due("28 then", d.parted(4, 2), 3);
        due("28 then the last", d.parted(4, 3), 6);
        due("28 seven rows", d.parted(7, NONE), 0);
        for (int k = 0; k < 7; k++) {
            due("28 each by itself", d.parted(7, k), k);
        }
        due("28 more than frames", d.parted(8, NONE), NONE);
        due("28 not so many", d.parted(2, 2), NONE);
        due("28 none", d.parted(0, NONE), -3);
        due("28 too many", d.parted(9, NONE), -3);
        due("28 k below", d.parted(1, -2), -3);
        due("28 k below ahead of NONE", d.parted(8, -2), -3);
        due("28 no film", new FlickerDesk().parted(1, NONE), NONE);
        FlickerDesk e = dots("", "aceaceaceaceaceaceaceace");
        // All told by c would cost 32; the first seven by themselves save 2 for each a and e.
        due("28 eight rows of many", e.parted(8, NONE), 32 - 10);
        for (int k = 1; k < 8; k++) {
            due("28 as early as may be " + k, e.parted(8, k), k);
        }
        d.cut(1);
        due("28 scenes do not matter", d.parted(2, 1), 3);
        d.dot(3, 0, 1);
        due("28 behind a dot", d.parted(2, 1), 4);
    }

    private static void shifted(String next, int x, int y, int many) {
        FlickerDesk d = desk("size 3 3;frame a4ba4;frame " + next + ";");
        due("29 x " + next, d.shift(0, 0), x + 2);
        due("29 y " + next, d.shift(0, 1), y + 2);
        due("29 dots " + next, d.shift(0, 2), many);
    }

    private static void p29Shift() {
        shifted("a4ba4", 0, 0, 9);
        shifted("c9", 0, 0, 0);
        shifted("c3bcbc3", -1, 0, 1);
        shifted("cbc5bc", 0, -1, 1);
        shifted("cbcbc5", -1, 0, 1);
        shifted("bc6bc", 0, 1, 1);
        shifted("c8b", 1, 1, 1);
        shifted("ccbc3bcc", -1, 1, 1);
        FlickerDesk d = desk("size 5 5;frame c2b2c21;frame d12b2d11;frame d25;");
        due("29 x", d.shift(0, 0), 2);
        due("29 two down", d.shift(0, 1), 4);
        due("29 two dots", d.shift(0, 2), 2);
        due("29 fewer behind more", d.shift(1, 2), 23);
        FlickerDesk f = desk("size 5 1;frame cbccc;frame dddbd;frame d5;");
        due("29 two to the right", f.shift(0, 0), 4);
        due("29 one dot", f.shift(0, 2), 1);
        due("29 four dots", f.shift(1, 2), 4);
        due("29 one dot again", f.shift(0, 2), 1);
        FlickerDesk e = desk("size 6 1;frame bccccc;frame dddbdd;");
        due("29 three is too far", e.shift(0, 2), 0);
        due("29 no next one", e.shift(1, 0), NONE);
        due("29 no such what", e.shift(0, 3), -2);
        due("29 no such what below", e.shift(0, -1), -2);
        due("29 no such what ahead of NONE", e.shift(1, 3), -2);
        due("29 no frame", e.shift(2, 0), -2);
        due("29 below", e.shift(-1, 0), -2);
    }

    private static void p30Alike() {
        FlickerDesk d = desk("size 2 1;frame ab;frame ba;frame ab;frame cc;frame ba;");
        due("30 unlike ones", d.alike(NONE), 3);
        int[] firsts = {0, 1, 0, 3, 1};
        for (int t = 0; t < 5; t++) {
            due("30 first like " + t, d.alike(t), firsts[t]);
        }
        due("30 no frame", d.alike(5), -2);
        due("30 below", d.alike(-2), -2);
        due("30 no film", new FlickerDesk().alike(NONE), 0);
        d.dot(2, 1, 2);
        due("30 unlike behind a dot", d.alike(2), 2);
        due("30 by the first dot alone", desk("size 2 1;frame ac;frame bc;").alike(NONE), 2);
        due("30 by the last dot alone", desk("size 2 1;frame ca;frame cb;").alike(1), 1);
    }

    private static void p31Nearest() {
        FlickerDesk d = dots("", "cgaed");
        int[] nearest = {4, 3, 0, 4, 0};
        for (int t = 0; t < 5; t++) {
            due("31 nearest " + t, d.nearest(t), nearest[t]);
        }
        due("31 of like ones the first", dots("", "cae").nearest(0), 1);
        due("31 no other", dots("", "c").nearest(0), NONE);
        due("31 no frame", d.nearest(5), -2);
        due("31 below", d.nearest(-1), -2);
        due("31 no film", new FlickerDesk().nearest(0), -2);
    }

    private static void p32Kinds() {
        FlickerDesk d = desk("size 2 1;frame bc;frame cb;frame ee;");
        due("32 by counts", d.kinds(false), 2);
        due("32 as rows they are three", d.alike(NONE), 3);
        d.set(5, 2);
        // Key is the first; both dots of the third come to c.
        due("32 evened", d.kinds(true), 2);
        FlickerDesk e = desk(BLINK);
        due("32 two", e.kinds(false), 2);
        due("32 one evened", e.kinds(true), 1);
        due("32 no film", new FlickerDesk().kinds(true), 0);
    }

    private static void p33Fitted() {
        FlickerDesk d = desk("size 4 1;frame aabb;frame decc;frame bbgg;");
        // a would go to d or e, b to c; as it never falls, all to c (or d) costs 1 + 2.
        due("33 cost", d.fitted(0, 1, NONE), 3);
        for (int s = 0; s < 16; s++) {
            due("33 the first row " + s, d.fitted(0, 1, s), 2);
        }
        due("33 cost of none", d.fitted(0, 2, NONE), 0);
        due("33 a", d.fitted(0, 2, 0), 1);
        due("33 b and those above", d.fitted(0, 2, 15), 6);
        due("33 those below the least", d.fitted(2, 0, 0), 0);
        due("33 b again", d.fitted(2, 0, 1), 0);
        due("33 between", d.fitted(2, 0, 5), 0);
        due("33 g", d.fitted(2, 0, 6), 1);
        due("33 cost of nothing to a", d.fitted(2, 0, NONE), 0);
        due("33 itself", d.fitted(1, 1, NONE), 0);
        due("33 no from", d.fitted(3, 0, 0), -2);
        due("33 no to", d.fitted(0, 3, 0), -2);
        due("33 below", d.fitted(-1, 0, 0), -2);
        due("33 no shade", d.fitted(0, 0, 16), -3);
        due("33 below NONE", d.fitted(0, 0, -2), -3);
        due("33 all wrong", d.fitted(0, 3, 16), -2);
    }

    private static void p34Lost() {
        FlickerDesk d = desk("size 2 1;keyed;frame ee;frame bc;");
        due("34 one shade", d.lost(0), 0);
        due("34 both", d.lost(1), 2);
        d.set(5, 1);
        due("34 by its table, though spread", desk("size 2 1;spread;frame ee;frame bc;skip 1;").lost(1), 2);
        d.set(3, 0);
        due("34 none by no step", d.lost(1), 0);
        due("34 no frame", d.lost(2), -2);
        due("34 below", d.lost(-1), -2);
        FlickerDesk e = desk("size 4 1;keyed;frame eegg;frame bcdi;");
        // b and c come to e, d and i to g.
        due("34 two couples", e.lost(1), 4);
        due("34 with black", desk("size 2 1;keyed;frame aa;frame ab;").lost(1), 2);
        FlickerDesk f = desk("size 4 1;keyed;frame eefg;frame bcdi;");
        due("34 one couple", f.lost(1), 2);
    }

    private static void p35Setting() {
        FlickerDesk d = desk("radius 2;black 3;white 12;step 5;border 77;keyed;");
        int[] told = {2, 3, 12, 5, 77, 2};
        for (int what = 0; what < 6; what++) {
            due("35 setting " + what, d.setting(what), told[what]);
        }
        due("35 no such", d.setting(6), -2);
        due("35 below", d.setting(-1), -2);
        due("35 far below", d.setting(Integer.MIN_VALUE), -2);
    }

    private static void p36Count() {
        FlickerDesk d = desk("size 7 1;weight 0 5;weight 3 8;frame a7;frame b7;frame c7;skip 0;skip 2;cut 1;");
        d.set(0, 1);
        d.feed(0, 0, 0, 0, 0);
        int[] counts = {7, 1, 3, 2, 1, 1, 20, NONE, NONE, NONE, 5, 1, 1, 8, NONE};
        for (int what = 0; what < counts.length; what++) {
            due("36 count " + what, d.count(what), counts[what]);
        }
        due("36 below", d.count(-1), NONE);
        due("36 far above", d.count(Integer.MAX_VALUE), NONE);
        due("36 far below", d.count(Integer.MIN_VALUE), NONE);
    }
}
