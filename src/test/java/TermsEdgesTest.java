/** What the document says of its terms, sentence by sentence, where they begin, end and tie; answers are by hand. */
public final class TermsEdgesTest {
    private static final Checks CHECKS = new Checks("TermsEdgesTest");
    private static final int NONE = FlickerDesk.NONE;

    private TermsEdgesTest() {
    }

    public static void main(String[] args) {
        quotientsGoDownwards();
        countsOfNoneAndOfAll();
        apartAtLeastAndAtMost();
        scenesByTheBorder();
        scenesByTheFirstAndByCuts();
        windowsByRadius();
        windowsWithinScenes();
        windowsWithoutSkippedOnes();
        windowOfNoneIsTheFrameAlone();
        targetsByWeightsOfDistances();
        keysOfLikeOnesTheFirst();
        targetsByTheKey();
        boundedByBlackAndWhite();
        boundedByStep();
        tablesByTargetsOfAsMany();
        ranksByAtMostEightRound();
        ranksOfLikeOnesByPlace();
        ranksAtTheEdges();
        spreadByTargetsOfMore();
        spreadIsBounded();
        flickerOfFewAndOfMost();
        fittedNeverFalls();
        fittedOfLikeOnesTheFirst();
        flashesFurtherThanSoMuch();
        flashesWithinAScene();
        partedFromOneToAll();
        partedOfLikeOnesTheFirst();
        shiftsOfTwoAtMost();
        shiftsOfLikeOnesTheLeast();
        periodsOfOneToEight();
        periodsInTheMean();
        CHECKS.end();
    }

    private static void due(String call, int got, int want) {
        CHECKS.due(call, got, want);
    }

    private static FlickerDesk desk(String text) {
        return Checks.desk(text);
    }

    private static FlickerDesk dots(String head, String shades) {
        return Checks.dots(head, shades);
    }

    // ---- counts, scenes

    private static void quotientsGoDownwards() {
        // Weights of distances 0 and 1; eight times one of them, by both.
        int[][] rows = {{1, 1, 4, 4}, {1, 2, 2, 5}, {2, 7, 1, 6}, {8, 1, 7, 0}, {1, 8, 0, 7}, {9, 9, 4, 4},
            {9, 1, 7, 0}};
        FlickerDesk d = desk("size 8 1;frame c8;frame d8;");
        for (int[] row : rows) {
            d.weight(0, row[0]);
            d.weight(1, row[1]);
            String by = " by " + row[0] + ", " + row[1];
            due("target of b" + by, d.level(0, 1, 2), 0);
            due("target of c" + by, d.level(0, 2, 2), row[2]);
            due("target of c in the second" + by, d.level(1, 2, 2), row[3]);
            due("target of d" + by, d.level(0, 3, 2), 8);
        }
        // Likewise of the least shade of all, asked again and again.
        FlickerDesk e = desk("size 8 1;frame a8;frame b8;");
        for (int[] row : rows) {
            e.weight(0, row[0]);
            e.weight(1, row[1]);
            due("target of a", e.level(0, 0, 2), row[2]);
            due("target of a in the second", e.level(1, 0, 2), row[3]);
        }
    }

    private static void countsOfNoneAndOfAll() {
        FlickerDesk d = desk("size 8 8;frame a64;frame p64;frame a63p;");
        // By frame: count and cum of a, o, p.
        int[][] counts = {{64, 0, 0}, {0, 0, 64}, {63, 0, 1}};
        int[][] cums = {{64, 64, 64}, {0, 0, 64}, {63, 63, 64}};
        int[] shades = {0, 14, 15};
        for (int t = 0; t < 3; t++) {
            for (int i = 0; i < 3; i++) {
                due("count of " + t + ", " + shades[i], d.level(t, shades[i], 0), counts[t][i]);
                due("cum of " + t + ", " + shades[i], d.level(t, shades[i], 1), cums[t][i]);
            }
        }
        int[] means = {0, 960, 15};
        int[] kinds = {1, 1, 2};
        for (int t = 0; t < 3; t++) {
            due("mean of " + t, d.frame(t, 0), means[t]);
            due("shades of " + t, d.frame(t, 5), kinds[t]);
        }
        FlickerDesk all = desk("frame abcdefghijklmnop;");
        due("all shades", all.frame(0, 5), 16);
        due("mean of all shades", all.frame(0, 0), 120);
        for (int s = 0; s < 16; s++) {
            due("count of one", all.level(0, s, 0), 1);
            due("cum of one", all.level(0, s, 1), s + 1);
        }
    }

    private static void apartAtLeastAndAtMost() {
        FlickerDesk d = desk("size 8 8;frame a64;frame p64;frame a63p;frame pa63;");
        due("itself", d.apart(1, 1, false), 0);
        due("other places", d.apart(2, 3, false), 0);
        due("at most", d.apart(0, 1, false), 960);
        due("the other way", d.apart(1, 0, false), 960);
        due("one dot", d.apart(0, 2, false), 15);
        due("all but one", d.apart(1, 3, false), 945);
        due("one step", dots("", "gh").apart(0, 1, false), 1);
        // One dot up and one down by as much: means are alike, but they are apart.
        due("there and back", desk("size 2 1;frame dd;frame ce;").apart(0, 1, false), 2);
    }

    private static void scenesByTheBorder() {
        FlickerDesk d = desk("size 8 8;frame a64;frame p64;");
        int[][] scenes = {{0, 1}, {1, 2}, {958, 2}, {959, 2}, {960, 1}, {961, 1}, {999, 1}};
        for (int[] row : scenes) {
            d.set(4, row[0]);
            due("border " + row[0], d.scene(NONE), row[1]);
            due("begins by border " + row[0], d.frame(1, 3), row[1] - 1);
        }
        due("as far as the border", dots("border 1;", "ab").scene(NONE), 1);
        due("further than the border", dots("border 1;", "ac").scene(NONE), 2);
        due("alike", dots("border 1;", "cc").scene(NONE), 1);
        // The first and the third are alike, but each is compared with the one ahead.
        due("from the one ahead", dots("border 3;", "aea").scene(NONE), 3);
        due("from the one ahead alone", dots("border 3;", "adgjm").scene(NONE), 1);
    }

    private static void scenesByTheFirstAndByCuts() {
        FlickerDesk d = dots("", "c");
        due("one frame", d.scene(NONE), 1);
        due("it begins", d.frame(0, 3), 1);
        due("its scene", d.frame(0, 1), 0);
        due("its key", d.key(0), 0);
        FlickerDesk e = dots("border 3;", "aee");
        due("by the border", e.scene(NONE), 2);
        due("by border and cut", e.cut(1), 2);
        due("by the cut alone", e.set(4, 0) + e.scene(NONE), 3 + 2);
        due("by neither", e.cut(1), 1);
        FlickerDesk f = dots("", "cccccccccccccccccccccccc");
        for (int t = 1; t < 24; t++) {
            due("cut " + t, f.cut(t), t + 1);
        }
        for (int t = 0; t < 24; t++) {
            due("scene of " + t, f.frame(t, 1), t);
            due("frame of scene " + t, f.scene(t), t);
            due("key of scene " + t, f.key(t), t);
            due("window of " + t, f.frame(t, 4), 1);
        }
    }

    // ---- windows

    private static void windowsByRadius() {
        FlickerDesk d = dots("", "ccccccccc");
        for (int radius = 0; radius <= 3; radius++) {
            d.set(0, radius);
            for (int t = 0; t < 9; t++) {
                due("radius " + radius + ", window of " + t, d.frame(t, 4),
                        Math.min(t, radius) + 1 + Math.min(8 - t, radius));
            }
        }
        // Only the first is lighter: it is seen just as far as the radius.
        FlickerDesk e = desk("size 8 8;radius 0;frame c64;" + "frame d64;".repeat(4));
        int[][] targets = {{64, 0, 0, 0, 0}, {32, 21, 0, 0, 0}, {21, 16, 12, 0, 0}, {16, 12, 12, 12, 0}};
        for (int radius = 0; radius <= 3; radius++) {
            e.set(0, radius);
            for (int t = 0; t < 5; t++) {
                due("radius " + radius + ", target of " + t, e.level(t, 2, 2), targets[radius][t]);
            }
        }
    }

    private static void windowsWithinScenes() {
        FlickerDesk d = dots("radius 3;", "ccccccccc");
        d.cut(4);
        int[] windows = {4, 4, 4, 4, 4, 5, 5, 5, 4};
        for (int t = 0; t < 9; t++) {
            due("window within its scene " + t, d.frame(t, 4), windows[t]);
        }
        FlickerDesk e = dots("radius 3;border 4;", "bbhh");
        for (int t = 0; t < 4; t++) {
            due("window within the border " + t, e.frame(t, 4), 2);
            due("steady " + t, e.steady(t), 1);
        }
    }

    private static void windowsWithoutSkippedOnes() {
        FlickerDesk d = dots("", "ccccccccc");
        d.skip(4);
        int[] windows = {2, 3, 3, 2, 2, 2, 3, 3, 2};
        for (int t = 0; t < 9; t++) {
            due("window without the skipped one " + t, d.frame(t, 4), windows[t]);
        }
        // The middle one is skipped: its target is that of its neighbours, and theirs is their own.
        FlickerDesk e = dots("", "ckc");
        e.skip(1);
        due("target of the skipped one", e.level(1, 2, 2), 1);
        due("the skipped one evened", e.shade(1, 0, true), 2);
        due("its neighbour", e.steady(0), 1);
        // A scene of its own does not help a skipped one that has neighbours in it.
        e.cut(1);
        due("window of the next alone", e.frame(1, 4), 1);
        due("evened by the next alone", e.shade(1, 0, true), 2);
    }

    private static void windowOfNoneIsTheFrameAlone() {
        FlickerDesk d = dots("", "ckc");
        for (int t = 0; t < 3; t++) {
            d.skip(t);
        }
        for (int t = 0; t < 3; t++) {
            due("alone among skipped ones", d.frame(t, 4), 1);
            due("its own target", d.level(t, t == 1 ? 10 : 2, 2), 1);
            due("its own target below", d.level(t, t == 1 ? 9 : 1, 2), 0);
            due("as it is", d.steady(t), 1);
        }
        FlickerDesk e = dots("radius 0;", "ck");
        e.skip(0);
        due("alone by no radius", e.frame(0, 4), 1);
        due("steady by no radius", e.steady(0), 1);
        // All but the first are skipped: the fourth sees it, the fifth sees none.
        FlickerDesk f = dots("radius 3;", "chhhh");
        for (int t = 1; t < 5; t++) {
            f.skip(t);
        }
        due("three from it", f.level(3, 2, 2), 1);
        due("four from it", f.level(4, 2, 2), 0);
        due("four from it, alone", f.level(4, 7, 2), 1);
        due("window of one", f.frame(3, 4), 1);
        due("window of itself", f.frame(4, 4), 1);
        f.cut(1);
        due("not in its scene", f.level(3, 2, 2), 0);
    }

    // ---- targets

    private static void targetsByWeightsOfDistances() {
        // All weights of a window of seven are 1 + 2 (2 + 3 + 4) = 19.
        int[] targets = {13, 10, 6, 3, 6, 10, 13};
        for (int lighter = 0; lighter < 7; lighter++) {
            StringBuilder text = new StringBuilder("size 8 8;radius 3;weight 0 1;weight 1 2;weight 2 3;weight 3 4;");
            for (int t = 0; t < 7; t++) {
                text.append(t == lighter ? "frame c64;" : "frame d64;");
            }
            FlickerDesk d = desk(text.toString());
            due("the lighter one at " + lighter, d.level(3, 2, 2), targets[lighter]);
            due("all at " + lighter, d.level(3, 3, 2), 64);
            due("none at " + lighter, d.level(3, 1, 2), 0);
        }
    }

    private static void keysOfLikeOnesTheFirst() {
        due("the middle one", dots("", "ace").key(0), 1);
        due("two", dots("", "ca").key(0), 0);
        due("two by two", dots("", "aacc").key(0), 0);
        due("the first of most", dots("", "aeeea").key(0), 1);
        due("the last", dots("", "afc").key(0), 2);
        due("the first of the halves", dots("", "apapapapapapapapapapapah").key(0), 0);
        due("the last of many", dots("", "apapapapapapapapapapaph").key(0), 22);
    }

    private static void targetsByTheKey() {
        FlickerDesk d = dots("keyed;radius 0;", "aeeea");
        for (int time = 0; time < 3; time++) {
            for (int t = 0; t < 5; t++) {
                due("below the key " + t, d.level(t, 3, 2), 0);
                due("the key " + t, d.level(t, 4, 2), 1);
            }
            // Neither skipped ones nor weights nor the radius matter.
            d.skip(1 + time);
            d.weight(0, 9);
            d.set(0, 3);
        }
        FlickerDesk scenes = dots("keyed;border 1;", "adgjmpadgjmpadgjmpadgjmp");
        FlickerDesk one = dots("keyed;step 1;", "hbbbbbbbbbbbbbbbbbbbbbbb");
        for (int t = 0; t < 24; t++) {
            due("each the key of its scene", scenes.steady(t), 1);
            due("all by one key", one.shade(t, 0, true), t == 0 ? 6 : 1);
        }
        d.cut(4);
        due("a scene of its own", d.level(4, 0, 2), 1);
        due("a scene of the others", d.level(0, 0, 2), 0);
    }

    // ---- bounded

    private static void boundedByBlackAndWhite() {
        // By the key, p or a, each shade of the second frame would come to p or a.
        for (int black = 0; black < 16; black++) {
            for (int white = black; white < 16; white++) {
                String bounds = "black " + black + ";white " + white + ";keyed;";
                FlickerDesk up = dots(bounds, "pa");
                FlickerDesk down = dots(bounds, "aa");
                for (int s = 0; s < 16; s++) {
                    boolean isKept = s <= black || s >= white;
                    due(bounds + " up " + s, up.level(1, s, 3), isKept ? s : white);
                    due(bounds + " down " + s, down.level(1, s, 3), isKept ? s : black);
                }
            }
        }
    }

    private static void boundedByStep() {
        FlickerDesk up = dots("black 3;white 9;keyed;", "pa");
        FlickerDesk down = dots("black 3;white 9;keyed;", "aa");
        int[] ups = {4, 5, 6, 7, 8, 9, 9, 9, 9, 9, 9, 9, 9, 9, 9, 9};
        int[] downs = {8, 7, 6, 5, 4, 3, 3, 3, 3, 3, 3, 3, 3, 3, 3, 3};
        for (int step = 0; step < 16; step++) {
            up.set(3, step);
            down.set(3, step);
            due("up by " + step, up.level(1, 4, 3), ups[step]);
            due("down by " + step, down.level(1, 8, 3), downs[step]);
            due("black by " + step, up.level(1, 3, 3), 3);
            due("white by " + step, down.level(1, 9, 3), 9);
        }
        FlickerDesk far = dots("keyed;step 13;", "pa");
        due("all the way but one", far.level(1, 1, 3), 14);
        far.set(3, 14);
        due("all the way", far.level(1, 1, 3), 15);
    }

    private static void tablesByTargetsOfAsMany() {
        // Targets by the key, the first frame: 2 from c on, 4 from d on.
        String key = "size 4 1;keyed;frame c2d2;frame ";
        FlickerDesk as = desk(key + "e2f2;");
        due("as many", as.level(1, 4, 3), 2);
        due("all", as.level(1, 5, 3), 3);
        due("none", as.level(1, 3, 3), 0);
        due("one more", desk(key + "e3f;").level(1, 4, 3), 3);
        due("one less", desk(key + "ef3;").level(1, 4, 3), 2);
        due("never about", desk(key + "efgh;").level(1, 6, 3), 3);
    }

    // ---- ranks, spread

    private static void ranksByAtMostEightRound() {
        FlickerDesk d = desk("size 8 8;frame b64;");
        // Corners have three round them, edges five, all others eight.
        int[][] ranks = {{0, 0}, {7, 1}, {56, 2}, {63, 3}, {1, 4}, {6, 9}, {8, 10}, {15, 11}, {16, 12}, {55, 21},
            {57, 22}, {62, 27}, {9, 28}, {14, 33}, {17, 34}, {54, 63}};
        for (int[] row : ranks) {
            due("rank of place " + row[0], d.rank(0, row[0]), row[1]);
        }
        // One light among blacks: those beside it are behind all that are not, 15 or more of them.
        for (int place = 0; place < 25; place++) {
            if (place == 12) {
                continue;
            }
            FlickerDesk e = desk("size 5 5;frame " + "a".repeat(place) + "p" + "a".repeat(24 - place) + ";");
            boolean isRound = Math.abs(place % 5 - 2) <= 1 && Math.abs(place / 5 - 2) <= 1;
            due("beside the light at " + place, e.rank(0, 12) >= 15 ? 1 : 0, isRound ? 1 : 0);
            due("the light at " + place, e.rank(0, place), 24);
        }
    }

    private static void ranksOfLikeOnesByPlace() {
        FlickerDesk d = desk("size 8 8;frame a64;frame a32p32;");
        for (int place = 0; place < 64; place++) {
            due("all black, place " + place, d.rank(0, place), place);
        }
        // Blacks that have no white round them are ahead of those that have: the fourth row.
        due("first black", d.rank(1, 0), 0);
        due("last black beside blacks alone", d.rank(1, 23), 23);
        due("the corners of the fourth row", d.rank(1, 24), 24);
        due("the other corner", d.rank(1, 31), 25);
        due("beside the corner", d.rank(1, 25), 26);
        due("last of the blacks", d.rank(1, 30), 31);
        due("one dot", dots("", "p").rank(0, 0), 0);
        FlickerDesk e = desk("size 1 8;frame b8;");
        int[] ranks = {0, 2, 3, 4, 5, 6, 7, 1};
        for (int place = 0; place < 8; place++) {
            due("one column, place " + place, e.rank(0, place), ranks[place]);
        }
    }

    /** Round the first there is one more than round the last: nothing at all stands beyond the edges. */
    private static void ranksAtTheEdges() {
        int[][] ranks = {{2, 4, 0, 3, 1}, {1, 3, 2, 0}};
        String[] rows = {"bdacb", "bdcb"};
        for (int i = 0; i < rows.length; i++) {
            int many = rows[i].length();
            FlickerDesk column = desk("size 1 " + many + ";frame " + rows[i] + ";");
            FlickerDesk row = desk("size " + many + " 1;frame " + rows[i] + ";");
            for (int place = 0; place < many; place++) {
                due("in a column " + rows[i] + " " + place, column.rank(0, place), ranks[i][place]);
                due("in a row " + rows[i] + " " + place, row.rank(0, place), ranks[i][place]);
            }
        }
    }

    private static void spreadByTargetsOfMore() {
        // The second is skipped, so its targets are 2 from c on, 4 from d on; its ranks are 0, 2, 3, 1.
        FlickerDesk d = desk("size 4 1;spread;frame c2d2;frame e4;skip 1;");
        int[] spread = {2, 3, 3, 2};
        for (int place = 0; place < 4; place++) {
            due("spread " + place, d.shade(1, place, true), spread[place]);
        }
        due("counts are those aimed at", d.apart(0, 1, true), 0);
        due("by the table all would come to d", d.level(1, 4, 3), 3);
    }

    private static void spreadIsBounded() {
        for (int s = 0; s < 16; s++) {
            FlickerDesk up = dots("spread;", "p" + (char) ('a' + s) + "p");
            FlickerDesk down = dots("spread;", "a" + (char) ('a' + s) + "a");
            up.skip(1);
            down.skip(1);
            int[][] bounds = {{0, 15}, {0, 0}, {15, 15}, {3, 9}, {7, 7}, {7, 8}, {6, 8}, {0, 1}, {14, 15}};
            for (int[] row : bounds) {
                setBounds(up, row[0], row[1]);
                setBounds(down, row[0], row[1]);
                boolean isKept = s <= row[0] || s >= row[1];
                String by = " " + s + " between " + row[0] + " and " + row[1];
                due("spread up" + by, up.shade(1, 0, true), isKept ? s : row[1]);
                due("spread down" + by, down.shade(1, 0, true), isKept ? s : row[0]);
            }
            setBounds(up, 0, 15);
            for (int step = 0; step < 16; step++) {
                up.set(3, step);
                due("spread up " + s + " by " + step, up.shade(1, 0, true), s == 0 ? 0 : Math.min(15, s + step));
            }
        }
    }

    private static void setBounds(FlickerDesk d, int black, int white) {
        d.set(1, 0);
        due("white", d.set(2, white) >= 0 ? 1 : 0, 1);
        due("black", d.set(1, black), 0);
    }

    // ---- flicker

    private static void flickerOfFewAndOfMost() {
        for (int evened = 0; evened < 2; evened++) {
            due("no film", new FlickerDesk().flicker(evened == 1), 0);
            due("one frame", dots("", "c").flicker(evened == 1), 0);
            due("all alike", dots("", "cccc").flicker(evened == 1), 0);
            due("each a scene", dots("border 1;", "cfil").flicker(evened == 1), 0);
        }
        // Blacks and whites are kept, so that it flickers as much evened.
        FlickerDesk d = desk("size 8 8;" + "frame a64;frame p64;".repeat(12));
        due("the most", d.flicker(false), 23 * 960);
        due("the most evened", d.flicker(true), 23 * 960);
        due("the most by rounds", d.rounds(10), 23 * 960);
        due("no step does it", d.leastStep(23 * 960 - 1), NONE);
        due("no step is needed", d.leastStep(23 * 960), 0);
        due("of like ones the least", d.bestRadius(), 0);
        due("they settle", d.settles(), 0);
        d.set(4, 959);
        due("each begins a scene", d.flicker(false), 0);
        d.set(4, 960);
        due("none begins a scene", d.flicker(false), 23 * 960);
    }

    // ---- fitted

    private static void fittedNeverFalls() {
        FlickerDesk d = desk("frame abcdefghijklmnop;frame ponmlkjihgfedcba;");
        due("turned about", d.fitted(0, 1, NONE), 64);
        due("and back", d.fitted(1, 0, NONE), 64);
        due("itself", d.fitted(0, 0, NONE), 0);
        for (int s = 0; s < 16; s++) {
            due("turned about " + s, d.fitted(0, 1, s), 7);
            due("itself " + s, d.fitted(0, 0, s), s);
        }
        FlickerDesk e = desk("size 8 8;frame a64;frame p64;frame a32p32;");
        int[][] fits = {{0, 1, 0, 15}, {1, 0, 0, 0}, {0, 2, 480, 0}, {1, 2, 480, 0}, {2, 0, 0, 0}};
        for (int[] row : fits) {
            due("differ " + row[0] + ", " + row[1], e.fitted(row[0], row[1], NONE), row[2]);
            due("a of " + row[0] + ", " + row[1], e.fitted(row[0], row[1], 0), row[3]);
            due("p of " + row[0] + ", " + row[1], e.fitted(row[0], row[1], 15), row[3]);
        }
        due("a of halves", e.fitted(2, 1, 0), 15);
        // p comes to p, those between stay as low as a lets them.
        due("o of p", e.fitted(1, 1, 14), 0);
        due("p of p", e.fitted(1, 1, 15), 15);
    }

    private static void fittedOfLikeOnesTheFirst() {
        // a may come to b, c, d, b to a, b, c: the first row that does not fall.
        FlickerDesk d = desk("size 4 1;frame aabb;frame bdac;");
        due("differ", d.fitted(0, 1, NONE), 4);
        due("a", d.fitted(0, 1, 0), 1);
        due("b", d.fitted(0, 1, 1), 1);
        due("above b", d.fitted(0, 1, 2), 1);
        // a would come to d and b to c: both to c, or both to d, differ by one.
        FlickerDesk e = desk("size 2 1;frame ab;frame dc;");
        due("differ by one", e.fitted(0, 1, NONE), 1);
        due("a to the lesser", e.fitted(0, 1, 0), 2);
        due("b to the lesser", e.fitted(0, 1, 1), 2);
    }

    // ---- flashes

    private static void flashesFurtherThanSoMuch() {
        // Means 4, 8, 5: four and three apart, the outer ones one.
        int[] flashes = {0, 1, 1, 0, 0};
        for (int much = 0; much < flashes.length; much++) {
            due("lighter than " + much, dots("", "eif").flash(much, NONE), flashes[much]);
            due("the other way " + much, dots("", "fie").flash(much, NONE), flashes[much]);
            due("darker than " + much, dots("", "ieh").flash(much, NONE), flashes[much]);
            due("darker the other way " + much, dots("", "hei").flash(much, NONE), flashes[much]);
        }
        FlickerDesk d = desk("size 8 8;frame a64;frame p64;frame a64;");
        due("the greatest", d.flash(959, NONE), 1);
        due("none further", d.flash(960, NONE), 0);
        due("none further at all", d.flash(Integer.MAX_VALUE, NONE), 0);
        due("a stair is none", dots("", "aeim").flash(3, NONE), 0);
        due("none of two", dots("", "ap").flash(0, NONE), 0);
        due("none of one", dots("", "a").flash(0, NONE), 0);
        due("neither the first nor the last", dots("", "paap").flash(0, NONE), 0);
    }

    private static void flashesWithinAScene() {
        FlickerDesk d = dots("", "aeaeaeaeaeaeaeaeaeaeaeae");
        due("all but the first and the last", d.flash(3, NONE), 22);
        due("the first of them", d.flash(3, 0), 1);
        due("the last of them", d.flash(3, 21), 22);
        due("not so many", d.flash(3, 22), NONE);
        d.cut(23);
        due("the next one begins a scene", d.flash(3, 21), NONE);
        due("the one ahead of it does not matter", d.flash(3, 20), 21);
        d.cut(1);
        due("it begins a scene", d.flash(3, 0), 2);
        due("so the first is the second", d.flash(3, NONE), 20);
        d.set(4, 3);
        due("all begin scenes", d.flash(3, NONE), 0);
        d.set(4, 4);
        due("skipped or not", d.skip(2) + d.flash(3, 0), 1 + 2);
    }

    // ---- parted

    private static void partedFromOneToAll() {
        FlickerDesk one = dots("", "h");
        due("one into one", one.parted(1, NONE), 0);
        due("it begins", one.parted(1, 0), 0);
        due("there is no second", one.parted(1, 1), NONE);
        due("one into two", one.parted(2, NONE), NONE);
        due("one into two, begins", one.parted(2, 0), NONE);
        FlickerDesk eight = dots("", "aceacgac");
        due("eight into eight", eight.parted(8, NONE), 0);
        for (int k = 0; k < 8; k++) {
            due("eight into eight, " + k, eight.parted(8, k), k);
        }
        due("no ninth", eight.parted(8, 8), NONE);
        FlickerDesk seven = dots("", "aceacga");
        due("seven into eight", seven.parted(8, NONE), NONE);
        due("seven into seven", seven.parted(7, NONE), 0);
        due("the last of seven", seven.parted(7, 6), 6);
        FlickerDesk most = desk("size 8 8;" + "frame a64;".repeat(12) + "frame p64;".repeat(12));
        due("all into one", most.parted(1, NONE), 12 * 960);
        due("all into two", most.parted(2, NONE), 0);
        due("in the midst", most.parted(2, 1), 12);
        // Rows are by frames, whatever scenes there are and which are skipped.
        most.cut(3);
        most.skip(12);
        due("scenes do not matter", most.parted(2, 1), 12);
        due("skipped ones neither", most.parted(1, NONE), 12 * 960);
    }

    private static void partedOfLikeOnesTheFirst() {
        FlickerDesk d = dots("", "cccccccccccccccccccccccc");
        for (int n = 1; n <= 8; n++) {
            due("cost of like ones", d.parted(n, NONE), 0);
            for (int k = 0; k < n; k++) {
                due("as early as may be", d.parted(n, k), k);
            }
        }
        // Three couples: of the two cuts that save the same the first is told.
        FlickerDesk e = dots("", "aabbcc");
        due("one cut of two", e.parted(2, NONE), 2);
        due("the first of two", e.parted(2, 1), 2);
        // The second row begins with the second or third frame at the same cost, the third with the fourth.
        FlickerDesk f = dots("", "abcpp");
        due("cost of three rows", f.parted(3, NONE), 1);
        due("second of three", f.parted(3, 1), 1);
        due("third of three", f.parted(3, 2), 3);
    }

    // ---- shifts

    private static void shiftsOfTwoAtMost() {
        for (int x = -2; x <= 2; x++) {
            for (int y = -2; y <= 2; y++) {
                char[] next = "c".repeat(25).toCharArray();
                next[(2 + y) * 5 + 2 + x] = 'b';
                FlickerDesk d = desk("size 5 5;frame a12ba12;frame " + new String(next) + ";");
                String by = " by " + x + ", " + y;
                due("x" + by, d.shift(0, 0), x + 2);
                due("y" + by, d.shift(0, 1), y + 2);
                due("dots" + by, d.shift(0, 2), 1);
            }
        }
        String[] far = {"size 4 1;frame baaa;frame cccb;", "size 4 1;frame aaab;frame bccc;",
            "size 1 4;frame baaa;frame cccb;", "size 1 4;frame aaab;frame bccc;"};
        for (String text : far) {
            due("three is too far: " + text, desk(text).shift(0, 2), 0);
        }
        FlickerDesk full = desk("size 8 8;frame b64;frame b64;");
        due("all dots", full.shift(0, 2), 64);
        due("by nothing x", full.shift(0, 0), 2);
        due("by nothing y", full.shift(0, 1), 2);
        FlickerDesk one = dots("", "cd");
        due("one dot, another", one.shift(0, 2), 0);
        due("one dot, x", one.shift(0, 0), 2);
        due("one dot, y", one.shift(0, 1), 2);
        // The end of a row does not go on in the next one.
        due("no further than the row", desk("size 2 2;frame abaa;frame ccbc;").shift(0, 0), 1);
    }

    private static void like(String next, int x, int y) {
        FlickerDesk d = desk("size 5 5;frame a12ba12;frame " + next + ";");
        due("x of " + next, d.shift(0, 0), x + 2);
        due("y of " + next, d.shift(0, 1), y + 2);
        due("dots of " + next, d.shift(0, 2), 1);
    }

    private static void shiftsOfLikeOnesTheLeast() {
        // Two dots of the next frame have the shade of the one in the midst.
        like("bc21bcc", 0, 2);
        like("c5bc8bc10", 2, 0);
        like("c10bc3bc10", -2, 0);
        like("c11bcbc11", -1, 0);
        like("c7bc9bc7", 0, -1);
        like("c11bc5bc7", -1, 0);
        like("c13bc3bc7", 0, 1);
        like("c10bc5bc8", -2, 0);
        like("c6bc9bc8", -1, -1);
        like("c8bc9bc6", 1, -1);
    }

    // ---- periods

    private static void periodsOfOneToEight() {
        due("no film", new FlickerDesk().period(), NONE);
        due("one frame", dots("", "h").period(), NONE);
        due("two frames", dots("", "ap").period(), 1);
        // The last is as the first, all others are unlike.
        String shades = "aklmnopbc";
        for (int many = 2; many <= 8; many++) {
            due("period " + many, dots("", shades.substring(0, many) + "a").period(), many);
        }
        // Nine would do, but is too far; a stair of one by one is least apart by one.
        due("nine is none", dots("", "abcdefghia").period(), 1);
        due("eight of 24", dots("", "abcdefghabcdefghabcdefgh").period(), 8);
        due("seven of 24", dots("", "apboapbapboapbapboapbapb").period(), 7);
        due("one of 24", dots("", "cccccccccccccccccccccccc").period(), 1);
        due("two of 24", dots("", "acacacacacacacacacacacac").period(), 2);
    }

    private static void periodsInTheMean() {
        // Three couples are apart 1 + 1 + 1, two 2 + 0, one by 1: all by one in the mean.
        due("of like ones the least", dots("", "bcba").period(), 1);
        // 5 by 3, 3 by 2, 1 by 1.
        due("not the sum", dots("", "fhfe").period(), 3);
        // Skipped ones and scenes do not matter.
        FlickerDesk d = dots("", "adada");
        d.skip(2);
        d.cut(3);
        due("scenes do not matter", d.period(), 2);
    }
}
