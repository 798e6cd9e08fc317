import java.util.NoSuchElementException;

/** Each call's numbers: the last taken, the first refused, by which code, and that refused calls change nothing. */
public final class CallEdgesTest {
    private static final Checks CHECKS = new Checks("CallEdgesTest");
    private static final int NONE = FlickerDesk.NONE;
    private static final int LEAST = Integer.MIN_VALUE;
    private static final int MOST = Integer.MAX_VALUE;
    /** Three frames of two dots; see Look.richDesk(). */
    private static final int[] NO_FRAMES = {LEAST, -3, -2, -1, 3, 4, 24, MOST};
    private static final int[] NO_PLACES = {LEAST, -2, -1, 2, 3, 64, MOST};
    private static final int[] NO_SHADES = {LEAST, -2, -1, 16, 17, MOST};

    private interface Call {
        int on(FlickerDesk desk);
    }

    private CallEdgesTest() {
    }

    public static void main(String[] args) {
        newObject();
        feedUpToNineHundred();
        fedBytesStandInTheirOrder();
        tellTakesWhatThereIs();
        faultOfTheLatestTell();
        setTakesItsBounds();
        setKeepsBlackBelowWhite();
        weightTakesItsBounds();
        cutTakesAllButTheFirst();
        skipTakesAll();
        dotTakesItsBounds();
        takeOfNothing();
        actsEvenIfAllIsAsItWas();
        whatIsNoAct();
        undoOfEight();
        undoBringsAllBack();
        undoLeavesTapeAndFault();
        tellForgetsActs();
        shadeThrows();
        levelAndFrame();
        apartSceneRankInverse();
        flickerCalls();
        leastStepAndBestRadius();
        roundsAndSettles();
        keyPartedShift();
        alikeNearestKinds();
        fittedAndLost();
        settingAndCount();
        codesAheadOfNone();
        questionsChangeNothing();
        fiveHundredAndTwelveCalls();
        CHECKS.end();
    }

    private static void due(String call, int got, int want) {
        CHECKS.due(call, got, want);
    }

    private static FlickerDesk dots(String shades) {
        return Checks.dots("", shades);
    }

    /** The call answers by the code and leaves all as it is. */
    private static void refused(String name, Call call, int code) {
        FlickerDesk d = Look.richDesk();
        due(name, call.on(d), code);
        Look.same(CHECKS, name, d, Look.richDesk());
    }

    private static void refusedFor(String name, int[] numbers, int code, java.util.function.IntFunction<Call> call) {
        for (int n : numbers) {
            refused(name + " of " + n, call.apply(n), code);
        }
    }

    // ---- the text

    private static void newObject() {
        FlickerDesk d = new FlickerDesk();
        int[] counts = {4, 4, 0, 0, 0, 0, 0, NONE, NONE, NONE, 1, 1, 1, 1, NONE};
        for (int what = 0; what < counts.length; what++) {
            due("count " + what, d.count(what), counts[what]);
        }
        int[] settings = {1, 0, 15, 15, 0, 0, -2};
        for (int what = 0; what < settings.length; what++) {
            due("setting " + what, d.setting(what), settings[what]);
        }
        due("no frame 0", d.frame(0, 0), -2);
        due("none to cut", d.cut(1), -2);
        due("none to skip", d.skip(0), -2);
        due("no dot", d.dot(0, 0, 0), -2);
        due("no scenes", d.scene(NONE), 0);
        due("no first scene", d.scene(0), NONE);
        due("no key", d.key(0), -2);
        due("no flicker", d.flicker(true), 0);
        due("best radius", d.bestRadius(), 0);
        due("least step", d.leastStep(0), 0);
        due("no flash", d.flash(0, NONE), 0);
        due("no period", d.period(), NONE);
        due("rounds", d.rounds(10), 0);
        due("settles", d.settles(), 0);
        due("parted", d.parted(1, NONE), NONE);
        due("no shift", d.shift(0, 0), -2);
        due("none alike", d.alike(NONE), 0);
        due("none nearest", d.nearest(0), -2);
        due("no kinds", d.kinds(false), 0);
        due("no kinds evened", d.kinds(true), 0);
        due("none fitted", d.fitted(0, 0, NONE), -2);
        due("none lost", d.lost(0), -2);
        due("no acts", d.undo(), -5);
    }

    private static void feedUpToNineHundred() {
        FlickerDesk d = new FlickerDesk();
        for (int many = 20; many <= 900; many += 20) {
            due("feed", d.feed(0x20202020, 0x20202020, 0x20202020, 0x20202020, 0x20202020), many);
            due("bytes on the tape", d.count(6), many);
        }
        for (int time = 0; time < 3; time++) {
            due("more than 900", d.feed(0x3F3F3F3F, 0, 0, 0, 0), -4);
            due("still 900", d.count(6), 900);
        }
        due("all of it is blank", d.tell(900), 0);
        due("and empty then", d.count(6), 0);
        due("and taken again", d.feed(0, 0, 0, 0, 0), 20);
        FlickerDesk full = Look.richDesk();
        FlickerDesk twin = Look.richDesk();
        while (full.count(6) < 900) {
            Checks.feed(full, "step 2;");
            Checks.feed(twin, "step 2;");
        }
        due("refused", full.feed(1, 2, 3, 4, 5), -4);
        Look.compare(CHECKS, "a full tape", full, twin);
        due("the same text", full.tell(18), twin.tell(18));
        Look.compare(CHECKS, "what it held", full, twin);
    }

    private static void fedBytesStandInTheirOrder() {
        // Each of the twenty bytes in turn is one that can stand nowhere, among blanks.
        for (int place = 0; place < 20; place++) {
            for (int sign : new int[] {1, 127, 128, 255}) {
                int[] five = {0x20202020, 0x20202020, 0x20202020, 0x20202020, 0x20202020};
                int down = 24 - 8 * (place % 4);
                five[place / 4] = five[place / 4] & ~(255 << down) | sign << down;
                FlickerDesk d = new FlickerDesk();
                d.feed(five[0], five[1], five[2], five[3], five[4]);
                due("bytes ahead of it are blank", d.tell(place), 0);
                d.feed(five[0], five[1], five[2], five[3], five[4]);
                due("byte " + place, d.tell(20), -31);
                due("stands at " + place, d.fault(1), place);
                d.feed(0x20202020, 0x20202020, 0x20202020, 0x20202020, 0x20202020);
                d.feed(five[0], five[1], five[2], five[3], five[4]);
                due("byte " + place + " behind others", d.tell(40), -31);
                due("stands behind them", d.fault(1), 20 + place);
            }
        }
    }

    private static void tellTakesWhatThereIs() {
        refusedFor("tell", new int[] {LEAST, -20, -2, -1, 21, 22, 40, 900, MOST}, -3, n -> d -> d.tell(n));
        FlickerDesk d = new FlickerDesk();
        due("nothing of an empty tape", d.tell(0), 0);
        due("one byte of an empty tape", d.tell(1), -3);
        Checks.feed(d, "frame b16;");
        due("21 of 20", d.tell(21), -3);
        due("20 of 20", d.tell(20), -31);
        due("at the byte behind the frame", d.fault(1), 10);
        Checks.feed(d, "frame b16;");
        due("10 of 20", d.tell(10), 1);
        due("the rest is gone", d.count(6), 0);
        due("none of it is left", d.tell(1), -3);
        Checks.feed(d, "frame b16;");
        due("0 of 20", d.tell(0), 0);
        due("the tape is empty", d.count(6), 0);
        due("the frame is gone", d.count(2), 0);
    }

    private static void faultOfTheLatestTell() {
        FlickerDesk d = new FlickerDesk();
        due("none yet", d.fault(0), 0);
        due("no place yet", d.fault(1), NONE);
        due("refused", d.tell(1), -3);
        due("none by a refused one", d.fault(0), 0);
        due("no place by a refused one", d.fault(1), NONE);
        String[] texts = {"?", "radius 4;", "frame a17;", "frame a15;", "size 1 1;" + "frame b;".repeat(25),
            "white 0;black 1;"};
        int[] places = {0, 7, 6, 9, 201, 16};
        for (int fault = 1; fault <= 6; fault++) {
            due("fault " + fault, Checks.tell(d, texts[fault - 1]), -30 - fault);
            due("refused behind " + fault, d.tell(-1) + d.tell(1), -6);
            due("its number " + fault, d.fault(0), fault);
            due("its place " + fault, d.fault(1), places[fault - 1]);
            for (int what : new int[] {LEAST, -2, -1, 2, 3, MOST}) {
                due("others " + what, d.fault(what), NONE);
            }
        }
        due("of no byte", d.tell(0), 0);
        due("no fault", d.fault(0), 0);
        due("no place", d.fault(1), NONE);
        Checks.tell(d, "?");
        Checks.tell(d, "frame a16;");
        due("no fault of a right text", d.fault(0), 0);
        due("no place of a right text", d.fault(1), NONE);
    }

    // ---- by hand

    private static void setTakesItsBounds() {
        int[] most = {3, 15, 15, 15, 999, 2};
        int[] usual = {1, 0, 15, 15, 0, 0};
        for (int what = 0; what < 6; what++) {
            FlickerDesk d = new FlickerDesk();
            int was = usual[what];
            for (int n : new int[] {0, 1, 2, most[what] - 1, most[what], 0, most[what]}) {
                due("set " + what + " to " + n, d.set(what, n), was);
                due("setting " + what, d.setting(what), n);
                was = n;
            }
            int of = what;
            refusedFor("set " + what, new int[] {LEAST, -2, -1, most[what] + 1, most[what] + 2, MOST}, -3,
                    n -> e -> e.set(of, n));
        }
        refusedFor("set what", new int[] {LEAST, -2, -1, 6, 7, 10, MOST}, -2, what -> e -> e.set(what, 1));
        refusedFor("set what and a wrong number", new int[] {-1, 6}, -2, what -> e -> e.set(what, -1));
    }

    private static void setKeepsBlackBelowWhite() {
        // The rich desk has black 1, white 14.
        FlickerDesk d = Look.richDesk();
        due("black as white", d.set(1, 14), 1);
        due("black is white", d.setting(1), 14);
        refused("black above white", e -> e.set(1, 15), -3);
        FlickerDesk f = Look.richDesk();
        due("white as black", f.set(2, 1), 14);
        due("white is black", f.setting(2), 1);
        refused("white below black", e -> e.set(2, 0), -3);
        for (int black = 0; black < 16; black++) {
            for (int white = 0; white < 16; white++) {
                FlickerDesk g = new FlickerDesk();
                due("white " + white, g.set(2, white), 15);
                due("black " + black + " to white " + white, g.set(1, black), black <= white ? 0 : -3);
                FlickerDesk h = new FlickerDesk();
                due("black " + black, h.set(1, black), 0);
                due("white " + white + " to black " + black, h.set(2, white), black <= white ? 15 : -3);
            }
        }
    }

    private static void weightTakesItsBounds() {
        for (int far = 0; far < 4; far++) {
            FlickerDesk d = new FlickerDesk();
            int was = 1;
            for (int n = 1; n <= 9; n++) {
                due("weight " + far + " to " + n, d.weight(far, n), was);
                due("weight is", d.count(10 + far), n);
                due("weights of others are not", d.count(10 + (far + 1) % 4), 1);
                was = n;
            }
            int of = far;
            refusedFor("weight " + far, new int[] {LEAST, -1, 0, 10, 11, MOST}, -3, n -> e -> e.weight(of, n));
        }
        refusedFor("weight of", new int[] {LEAST, -2, -1, 4, 5, MOST}, -2, far -> e -> e.weight(far, 1));
        refusedFor("weight of and a wrong number", new int[] {-1, 4}, -2, far -> e -> e.weight(far, 0));
    }

    private static void cutTakesAllButTheFirst() {
        refused("cut the first", d -> d.cut(0), -2);
        refusedFor("cut", NO_FRAMES, -2, t -> d -> d.cut(t));
        due("the only one", dots("c").cut(0), -2);
        FlickerDesk d = dots("cccccccccccccccccccccccc");
        due("the second", d.cut(1), 2);
        due("the last", d.cut(23), 3);
        due("cut ones", d.count(4), 2);
        due("none such", d.cut(24), -2);
        due("the last no more", d.cut(23), 2);
        due("the last again", d.cut(23), 3);
        due("the second no more", d.cut(1), 2);
        due("cut ones left", d.count(4), 1);
        due("its frame", d.scene(1), 23);
    }

    private static void skipTakesAll() {
        refusedFor("skip", NO_FRAMES, -2, t -> d -> d.skip(t));
        FlickerDesk d = dots("cccccccccccccccccccccccc");
        for (int t = 0; t < 24; t++) {
            due("skip " + t, d.skip(t), t + 1);
        }
        due("all are", d.count(3), 24);
        due("none such", d.skip(24), -2);
        for (int t = 0; t < 24; t++) {
            due("no more " + t, d.skip(t), 23 - t);
        }
        due("none is", d.count(3), 0);
    }

    private static void dotTakesItsBounds() {
        refusedFor("dot of frame", NO_FRAMES, -2, t -> d -> d.dot(t, 0, 0));
        refusedFor("dot of place", NO_PLACES, -2, place -> d -> d.dot(0, place, 0));
        refusedFor("dot of shade", NO_SHADES, -3, s -> d -> d.dot(0, 0, s));
        refusedFor("dot of frame and shade", NO_FRAMES, -2, t -> d -> d.dot(t, 0, 16));
        refusedFor("dot of place and shade", NO_PLACES, -2, place -> d -> d.dot(0, place, -1));
        FlickerDesk d = Checks.desk("size 8 8;" + "frame h64;".repeat(24));
        int[][] corners = {{0, 0}, {0, 63}, {23, 0}, {23, 63}};
        for (int[] at : corners) {
            due("had", d.dot(at[0], at[1], 0), 7);
            due("is black", d.dot(at[0], at[1], 15), 0);
            due("is white", d.shade(at[0], at[1], false), 15);
        }
        due("no place 64", d.dot(0, 64, 0), -2);
        due("no frame 24", d.dot(24, 0, 0), -2);
        due("others stay", d.frame(0, 0), 62 * 7 + 30);
        due("all others stay", d.frame(1, 0), 64 * 7);
    }

    private static void takeOfNothing() {
        FlickerDesk d = new FlickerDesk();
        due("no film", d.take(), 0);
        due("is an act", d.count(5), 1);
        FlickerDesk e = dots("h");
        due("one frame", e.take(), 0);
        due("is an act, too", e.count(5), 1);
        // All dots of every other frame come to the lighter shade.
        FlickerDesk f = Checks.desk("size 8 8;" + "frame g64;frame h64;".repeat(12));
        due("half of all", f.take(), 12 * 64);
        due("then none", f.take(), 0);
        due("both are acts", f.count(5), 2);
    }

    private static void actsEvenIfAllIsAsItWas() {
        FlickerDesk d = dots("hhh");
        due("set", d.set(0, 1), 1);
        due("weight", d.weight(2, 1), 1);
        due("dot", d.dot(1, 0, 7), 7);
        due("take", d.take(), 0);
        due("four acts", d.count(5), 4);
        due("cut", d.cut(1), 2);
        due("and no more", d.cut(1), 1);
        due("skip", d.skip(0), 1);
        due("and is no more", d.skip(0), 0);
        due("eight acts", d.count(5), 8);
        for (int left = 7; left >= 0; left--) {
            due("undone", d.undo(), left);
        }
        Look.compare(CHECKS, "all is as it was", d, dots("hhh"));
    }

    private static void whatIsNoAct() {
        FlickerDesk d = dots("hgh");
        d.set(0, 2);
        d.feed(0, 0, 0, 0, 0);
        due("feed", d.count(5), 1);
        d.tell(21);
        d.tell(20);
        due("tell that is refused", d.count(5), 1);
        d.bestRadius();
        d.leastStep(0);
        d.rounds(10);
        d.settles();
        due("questions", d.count(5), 1);
        d.set(0, 4);
        d.weight(0, 0);
        d.cut(0);
        d.skip(3);
        d.dot(0, 1, 0);
        due("refused ones", d.count(5), 1);
        due("undo", d.undo(), 0);
        due("undo is none", d.count(5), 0);
        due("nothing is done again", d.undo(), -5);
        due("it was undone", d.setting(0), 1);
    }

    private static void undoOfEight() {
        refusedUndo(new FlickerDesk());
        refusedUndo(dots("hgh"));
        for (int acts = 1; acts <= 12; acts++) {
            FlickerDesk d = dots("hgh");
            for (int border = 1; border <= acts; border++) {
                d.set(4, border);
            }
            int kept = Math.min(acts, 8);
            due("acts of " + acts, d.count(5), kept);
            for (int left = kept - 1; left >= 0; left--) {
                due("undone of " + acts, d.undo(), left);
                due("border of " + acts, d.setting(4), acts - kept + left);
                due("acts left of " + acts, d.count(5), left);
            }
            due("no more of " + acts, d.undo(), -5);
            due("the border stays", d.setting(4), acts - kept);
            due("one more", d.set(4, 77), acts - kept);
            due("can be undone", d.undo(), 0);
        }
    }

    private static void refusedUndo(FlickerDesk d) {
        due("nothing to undo", d.undo(), -5);
        due("nothing to undo again", d.undo(), -5);
        due("none", d.count(5), 0);
    }

    private static FlickerDesk afterActs(int acts) {
        FlickerDesk d = Checks.desk("size 2 1;frame bc;frame gi;frame ek;radius 2;");
        for (int act = 0; act < acts; act++) {
            switch (act) {
                case 0 -> d.set(5, 1);
                case 1 -> d.weight(1, 9);
                case 2 -> d.cut(2);
                case 3 -> d.skip(0);
                case 4 -> d.dot(2, 1, 3);
                case 5 -> d.take();
                case 6 -> d.set(4, 5);
                default -> d.take();
            }
        }
        return d;
    }

    private static void undoBringsAllBack() {
        for (int acts = 0; acts <= 8; acts++) {
            for (int undone = 0; undone <= acts; undone++) {
                FlickerDesk d = afterActs(acts);
                for (int i = 0; i < undone; i++) {
                    due("undo", d.undo(), acts - i - 1);
                }
                Look.compare(CHECKS, acts + " acts, " + undone + " undone", d, afterActs(acts - undone));
            }
        }
    }

    private static void undoLeavesTapeAndFault() {
        FlickerDesk d = dots("hgh");
        d.set(0, 2);
        Checks.tell(d, "radius 9;");
        Checks.feed(d, "step 3;");
        due("undo", d.undo(), 0);
        due("the tape stays", d.count(6), 20);
        due("the fault stays", d.fault(0), 2);
        due("its place stays", d.fault(1), 7);
        due("the text stays", d.tell(7), 0);
        due("and is told", d.setting(3), 3);
    }

    private static void tellForgetsActs() {
        String[] texts = {"", "step 3;", "frame h16;"};
        for (String text : texts) {
            FlickerDesk d = dots("hgh");
            d.set(0, 2);
            d.take();
            due("taken", Checks.tell(d, text) >= 0 ? 1 : 0, 1);
            due("forgotten", d.count(5), 0);
            due("none to undo", d.undo(), -5);
            due("the new film stays", d.count(2), text.startsWith("frame") ? 1 : 0);
        }
        FlickerDesk d = dots("hgh");
        d.set(0, 2);
        d.tell(1);
        due("not by a refused one", d.count(5), 1);
        Checks.tell(d, "frame");
        due("not by a faulty one", d.count(5), 1);
    }

    // ---- frames

    private static int thrown(FlickerDesk d, int frame, int place, boolean evened) {
        try {
            d.shade(frame, place, evened);
            return 0;
        } catch (NoSuchElementException e) {
            return 1;
        }
    }

    private static void shadeThrows() {
        for (int evened = 0; evened < 2; evened++) {
            boolean isEvened = evened == 1;
            refusedFor("shade of frame", NO_FRAMES, 1, t -> d -> thrown(d, t, 0, isEvened));
            refusedFor("shade of place", NO_PLACES, 1, place -> d -> thrown(d, 0, place, isEvened));
            refusedFor("shade of both", NO_PLACES, 1, place -> d -> thrown(d, place == 2 ? 3 : place, place, isEvened));
            due("no film", thrown(new FlickerDesk(), 0, 0, isEvened), 1);
            FlickerDesk d = Checks.desk("size 8 8;" + "frame h64;".repeat(24));
            due("the first", d.shade(0, 0, isEvened), 7);
            due("the last", d.shade(23, 63, isEvened), 7);
            due("no place 64", thrown(d, 0, 64, isEvened), 1);
            due("no frame 24", thrown(d, 24, 0, isEvened), 1);
        }
    }

    private static void levelAndFrame() {
        for (int what = 0; what <= 4; what++) {
            int of = what;
            refusedFor("level of frame", NO_FRAMES, -2, t -> d -> d.level(t, 0, of));
            refusedFor("level of shade", NO_SHADES, -3, s -> d -> d.level(0, s, of));
            refusedFor("level of frame and shade", NO_FRAMES, -2, t -> d -> d.level(t, 16, of));
            FlickerDesk d = Checks.desk("frame a16;frame p16;");
            int[] lowest = {16, 16, 8, 0, 16};
            int[] highest = {16, 16, 16, 15, 16};
            due("level of the first frame and shade " + what, d.level(0, 0, what), lowest[what]);
            due("level of the last frame and shade " + what, d.level(1, 15, what), highest[what]);
        }
        int[] noWhat = {LEAST, -2, -1, 5, 6, MOST};
        refusedFor("level of what", noWhat, -2, what -> d -> d.level(0, 0, what));
        refusedFor("level of what and shade", noWhat, -2, what -> d -> d.level(0, 16, what));
        for (int what = 0; what <= 8; what++) {
            int of = what;
            refusedFor("frame", NO_FRAMES, -2, t -> d -> d.frame(t, of));
        }
        refusedFor("frame of what", new int[] {LEAST, -2, -1, 9, 10, MOST}, -2, what -> d -> d.frame(0, what));
        FlickerDesk d = dots("cccccccccccccccccccccccc");
        int[] first = {2, 0, 0, 1, 2, 1, 1, 2, 0};
        int[] last = {2, 0, 0, 0, 2, 1, 1, 2, 0};
        for (int what = 0; what <= 8; what++) {
            due("of the first frame " + what, d.frame(0, what), first[what]);
            due("of the last frame " + what, d.frame(23, what), last[what]);
            due("of none " + what, d.frame(24, what), -2);
        }
    }

    private static void apartSceneRankInverse() {
        for (int evened = 0; evened < 2; evened++) {
            boolean isEvened = evened == 1;
            refusedFor("apart of one", NO_FRAMES, -2, t -> d -> d.apart(t, 0, isEvened));
            refusedFor("apart of the other", NO_FRAMES, -2, t -> d -> d.apart(0, t, isEvened));
            refusedFor("apart of both", NO_FRAMES, -2, t -> d -> d.apart(t, t, isEvened));
        }
        due("the last two", dots("abcdefghijklmnoponmlkjih").apart(22, 23, false), 1);
        refusedFor("scene", new int[] {LEAST, -3, -2}, -3, k -> d -> d.scene(k));
        // The rich desk has two scenes.
        refusedFor("scene, not so many", new int[] {2, 3, 24, MOST}, NONE, k -> d -> d.scene(k));
        FlickerDesk d = Look.richDesk();
        due("scenes", d.scene(NONE), 2);
        due("first scene", d.scene(0), 0);
        due("last scene", d.scene(1), 2);
        refusedFor("rank of frame", NO_FRAMES, -2, t -> e -> e.rank(t, 0));
        refusedFor("rank of place", NO_PLACES, -2, place -> e -> e.rank(0, place));
        refusedFor("inverse of frame", NO_FRAMES, -2, t -> e -> e.inverse(t, 0));
        refusedFor("inverse of shade", NO_SHADES, -3, s -> e -> e.inverse(0, s));
        refusedFor("inverse of both", NO_FRAMES, -2, t -> e -> e.inverse(t, 16));
        FlickerDesk f = Checks.dots("black 3;white 9;keyed;", "pa");
        // 0 to 3 and 9 to 15 are kept, 4 to 8 come to 9.
        int[] inverse = {0, 1, 2, 3, 4, 4, 4, 4, 4, 4, 10, 11, 12, 13, 14, 15};
        for (int s = 0; s < 16; s++) {
            due("inverse of " + s, f.inverse(1, s), inverse[s]);
        }
    }

    // ---- flicker

    private static void flickerCalls() {
        refusedFor("steady", NO_FRAMES, -2, t -> d -> d.steady(t));
        due("the last is steady", dots("cccccccccccccccccccccccc").steady(23), 1);
        due("one frame is steady", dots("c").steady(0), 1);
        int[] below = {LEAST, -2, -1};
        refusedFor("flash by", below, -3, much -> d -> d.flash(much, NONE));
        refusedFor("flash by and k", below, -3, much -> d -> d.flash(much, 0));
        refusedFor("flash of k", new int[] {LEAST, -3, -2}, -3, k -> d -> d.flash(0, k));
        refusedFor("flash, not so many", new int[] {1, 24, MOST}, NONE, k -> d -> d.flash(0, k));
        FlickerDesk d = dots("aha");
        due("by 0", d.flash(0, NONE), 1);
        due("the first", d.flash(0, 0), 1);
        due("no second", d.flash(0, 1), NONE);
        due("period of one", dots("a").period(), NONE);
        due("period of two", dots("ab").period(), 1);
    }

    private static void leastStepAndBestRadius() {
        refusedFor("leastStep", new int[] {LEAST, -2, -1}, -3, n -> d -> d.leastStep(n));
        due("no more than 0", dots("cc").leastStep(0), 0);
        due("no more than any", dots("ch").leastStep(MOST), 0);
        FlickerDesk d = dots("ch");
        int[] steps = {5, 4, 3, 2, 1, 0, 0};
        for (int n = 0; n < steps.length; n++) {
            due("no more than " + n, d.leastStep(n), steps[n]);
        }
        // From b to o is as far as a shade that is neither black nor white can go to one that is not.
        due("thirteen steps", dots("bo").leastStep(0), 13);
        due("fourteen steps", dots("bp").leastStep(0), 14);
        due("no step does", dots("ap").leastStep(14), NONE);
        due("none is needed", dots("ap").leastStep(15), 0);
        due("radius 3", dots("pdcf").bestRadius(), 3);
        due("radius 0", dots("ap").bestRadius(), 0);
    }

    private static void roundsAndSettles() {
        refusedFor("rounds", new int[] {LEAST, -2, -1, 11, 12, MOST}, -3, n -> d -> d.rounds(n));
        FlickerDesk d = Checks.dots("step 1;", "pd");
        due("no round", d.rounds(0), 12);
        due("one round", d.rounds(1), 11);
        due("ten rounds", d.rounds(10), 2);
        due("twelve times", d.settles(), 12);
        for (int time = 1; time <= 12; time++) {
            due("take " + time, d.take(), 1);
            due("left", d.settles(), 12 - time);
        }
        due("no more", d.take(), 0);
        FlickerDesk twenty = Checks.desk(
                "size 4 1;step 1;border 21;weight 0 4;frame ciap;frame bfae;frame dcif;frame pgmo;");
        due("twenty times", twenty.settles(), 20);
        for (int time = 1; time <= 20; time++) {
            due("changes " + time, twenty.take() > 0 ? 1 : 0, 1);
        }
        due("changes nothing", twenty.take(), 0);
        FlickerDesk more = Checks.desk("size 1 2;step 1;radius 1;keyed;frame am;frame jj;frame fo;frame bb;");
        due("twenty-one times", more.settles(), NONE);
        due("one less", more.take() > 0 ? more.settles() : -2, 20);
    }

    private static void keyPartedShift() {
        refusedFor("key", new int[] {LEAST, -2, -1, 2, 3, 24, MOST}, -2, k -> d -> d.key(k));
        due("key of the first scene", Look.richDesk().key(0), 0);
        due("key of the last scene", Look.richDesk().key(1), 2);
        refusedFor("parted into", new int[] {LEAST, -1, 0, 9, 10, MOST}, -3, n -> d -> d.parted(n, NONE));
        refusedFor("parted into, k", new int[] {LEAST, -1, 0, 9, 10, MOST}, -3, n -> d -> d.parted(n, 0));
        refusedFor("parted of k", new int[] {LEAST, -3, -2}, -3, k -> d -> d.parted(1, k));
        refusedFor("parted into more than there are", new int[] {4, 5, 8}, NONE, n -> d -> d.parted(n, NONE));
        refusedFor("parted, not so many", new int[] {3, 4, 8, MOST}, NONE, k -> d -> d.parted(3, k));
        due("the first of three", Look.richDesk().parted(3, 0), 0);
        due("the last of three", Look.richDesk().parted(3, 2), 2);
        refusedFor("shift of frame", NO_FRAMES, -2, t -> d -> d.shift(t, 0));
        refusedFor("shift of what", new int[] {LEAST, -2, -1, 3, 4, MOST}, -2, what -> d -> d.shift(0, what));
        refusedFor("shift of the last", new int[] {0, 1, 2}, NONE, what -> d -> d.shift(2, what));
        due("shift of the last but one", dots("cccccccccccccccccccccccc").shift(22, 2), 1);
        due("shift of the only one", dots("c").shift(0, 2), NONE);
    }

    // ---- alike, fitted

    private static void alikeNearestKinds() {
        refusedFor("alike", new int[] {LEAST, -3, -2, 3, 4, 24, MOST}, -2, t -> d -> d.alike(t));
        refusedFor("nearest", NO_FRAMES, -2, t -> d -> d.nearest(t));
        FlickerDesk d = dots("cccccccccccccccccccccccc");
        due("all alike", d.alike(NONE), 1);
        due("the last is like the first", d.alike(23), 0);
        due("nearest to the first", d.nearest(0), 1);
        due("nearest to the last", d.nearest(23), 0);
        due("one kind", d.kinds(false), 1);
        due("one kind evened", d.kinds(true), 1);
        FlickerDesk full = Checks.desk("size 8 8;" + "frame h64;".repeat(24));
        due("all alike, of most dots", full.alike(NONE), 1);
        full.dot(23, 63, 8);
        due("unlike by the very last dot", full.alike(23), 23);
        due("two unlike ones", full.alike(NONE), 2);
        due("two kinds", full.kinds(false), 2);
        StringBuilder text = new StringBuilder("size 2 1;");
        for (int t = 0; t < 24; t++) {
            text.append("frame ").append((char) ('a' + t % 16)).append((char) ('a' + t / 16)).append(';');
        }
        FlickerDesk e = Checks.desk(text.toString());
        due("none alike", e.alike(NONE), 24);
        due("the last is like itself", e.alike(23), 23);
        // b, a and a, b are alike in counts.
        due("kinds", e.kinds(false), 23);
        due("nearest to it", e.nearest(16), 1);
        due("no other", dots("c").nearest(0), NONE);
        due("one alike", dots("c").alike(NONE), 1);
    }

    private static void fittedAndLost() {
        refusedFor("fitted from", NO_FRAMES, -2, t -> d -> d.fitted(t, 0, 0));
        refusedFor("fitted to", NO_FRAMES, -2, t -> d -> d.fitted(0, t, 0));
        refusedFor("fitted of shade", new int[] {LEAST, -3, -2, 16, 17, MOST}, -3, s -> d -> d.fitted(0, 1, s));
        refusedFor("fitted from, shade", NO_FRAMES, -2, t -> d -> d.fitted(t, 0, 16));
        refusedFor("fitted to, shade", NO_FRAMES, -2, t -> d -> d.fitted(0, t, -2));
        refusedFor("fitted from, how much", NO_FRAMES, -2, t -> d -> d.fitted(t, 0, NONE));
        FlickerDesk d = dots("abcdefghijklmnoponmlkjih");
        due("the last to the first", d.fitted(23, 0, 15), 0);
        due("the first to the last", d.fitted(0, 23, 0), 7);
        due("how much", d.fitted(23, 22, NONE), 0);
        refusedFor("lost", NO_FRAMES, -2, t -> e -> e.lost(t));
        due("none lost", dots("abcdefghijklmnoponmlkjih").lost(23), 0);
        // The key is all h; of sixteen shades all between a and p come to h, which is there, too.
        FlickerDesk e = Checks.desk("keyed;frame h16;frame abcdefghijklmnop;");
        due("all between lost", e.lost(1), 14);
        due("none lost of the key", e.lost(0), 0);
        e.set(3, 0);
        due("none lost by no step", e.lost(1), 0);
    }

    private static void settingAndCount() {
        refusedFor("setting", new int[] {LEAST, -2, -1, 6, 7, 10, MOST}, -2, what -> d -> d.setting(what));
        refusedFor("count", new int[] {LEAST, -2, -1, 7, 8, 9, 14, 15, MOST}, NONE, what -> d -> d.count(what));
        FlickerDesk d = Look.richDesk();
        int[] settings = {2, 1, 14, 5, 50, 0};
        for (int what = 0; what < 6; what++) {
            due("setting " + what, d.setting(what), settings[what]);
        }
        int[] counts = {2, 1, 3, 1, 1, 4, 20, NONE, NONE, NONE, 1, 3, 7, 1};
        for (int what = 0; what < counts.length; what++) {
            due("count " + what, d.count(what), counts[what]);
        }
    }

    // ---- all calls

    private static void codesAheadOfNone() {
        refused("shift of the last, no such what", d -> d.shift(2, 3), -2);
        refused("shift of the last, no such what below", d -> d.shift(2, -1), -2);
        refused("parted of k below, too few frames", d -> d.parted(8, -2), -3);
        refused("parted into too many, not so many", d -> d.parted(9, 9), -3);
        refused("parted into none, not so many", d -> d.parted(0, 0), -3);
        refused("flash by less than 0, not so many", d -> d.flash(-1, 9), -3);
        due("nearest of none, no other", dots("c").nearest(1), -2);
        due("shift of none, no next", dots("c").shift(1, 0), -2);
        due("scene below, no film", new FlickerDesk().scene(-2), -3);
        due("parted, no film", new FlickerDesk().parted(0, NONE), -3);
        due("parted of k below, no film", new FlickerDesk().parted(1, -2), -3);
        due("flash below, no film", new FlickerDesk().flash(-1, 0), -3);
        due("alike of none, no film", new FlickerDesk().alike(0), -2);
    }

    private static void questionsChangeNothing() {
        Call[] questions = {d -> d.fault(0), d -> d.level(0, 1, 4), d -> d.frame(1, 8), d -> d.apart(0, 1, true),
            d -> d.scene(0), d -> d.rank(0, 1), d -> d.inverse(0, 3), d -> d.flicker(true), d -> d.steady(0),
            FlickerDesk::bestRadius, d -> d.leastStep(0), d -> d.flash(0, 0), FlickerDesk::period, d -> d.rounds(10),
            FlickerDesk::settles, d -> d.key(1), d -> d.parted(2, 1), d -> d.shift(0, 0), d -> d.alike(1),
            d -> d.nearest(1), d -> d.kinds(true), d -> d.fitted(0, 1, 3), d -> d.lost(0), d -> d.setting(0),
            d -> d.count(0), d -> d.shade(0, 0, true)};
        for (int i = 0; i < questions.length; i++) {
            int first = questions[i].on(Look.richDesk());
            refused("question " + i, questions[i], first);
        }
    }

    /** The last call of which the document tells answers as the first. */
    private static void fiveHundredAndTwelveCalls() {
        FlickerDesk d = dots("hgh");
        // Two feeds and one tell have been called ahead of these.
        for (int call = 4; call <= 511; call++) {
            due("skip, call " + call, d.skip(0), 1 - call % 2);
        }
        due("call 512", d.undo(), 7);
    }
}
