/** What the document says of THE TEXT, sentence by sentence: the last that is taken and the first that is refused. */
public final class TextEdgesTest {
    private static final Checks CHECKS = new Checks("TextEdgesTest");
    private static final int NONE = FlickerDesk.NONE;
    private static final String FRAME = "frame a16;";

    private TextEdgesTest() {
    }

    public static void main(String[] args) {
        sizeIsOneToEightEach();
        withoutSizeFourAndFour();
        sizeStandsAheadOfAllFrames();
        atMostTwentyFourFrames();
        shadesAreLettersAToP();
        letterByItselfIsOneDot();
        runsHaveOneToSixtyFourDots();
        justAsManyDotsAsPlaces();
        rowByRow();
        settingsHaveBounds();
        settingsWithout();
        weightsHaveBounds();
        oneModeOfBoth();
        cutsAreToldAheadAndAboveNone();
        skipsAreToldAhead();
        linesToldOnce();
        linesToldOnceForEach();
        wordsAndNumbersEndWhereTheyEnd();
        otherBytesStandNowhere();
        blanksBetweenAll();
        blanksThatMustBe();
        blanksThatMustNotBe();
        threeDigitsAtMost();
        endOfTheText();
        endIsThatOfWhatIsTold();
        faultsOfOnePlace();
        firstFaultAlongTheText();
        runsAreCountedBehindTheirNumber();
        blackAboveWhite();
        blackAboveWhiteOnlyWithoutOthers();
        withAFaultAllStays();
        inPlaceOfAllToldAhead();
        askedAheadAndBehind();
        textsOfNineHundredBytes();
        CHECKS.end();
    }

    private static void due(String call, int got, int want) {
        CHECKS.due(call, got, want);
    }

    private static void faulty(String text, int fault, int place) {
        CHECKS.faulty(text, fault, place);
    }

    private static FlickerDesk right(String text, int frames) {
        return CHECKS.right(text, frames);
    }

    private static String frames(int many, String line) {
        return line.repeat(many);
    }

    // ---- size

    private static void sizeIsOneToEightEach() {
        for (int wide = 0; wide <= 10; wide++) {
            for (int high = 0; high <= 10; high++) {
                String size = "size " + wide + " " + high + ";";
                if (wide < 1 || wide > 8) {
                    faulty(size, 2, 5);
                } else if (high < 1 || high > 8) {
                    faulty(size, 2, 7);
                } else {
                    FlickerDesk d = right(size + "frame b" + wide * high + ";", 1);
                    due("wide of " + size, d.count(0), wide);
                    due("high of " + size, d.count(1), high);
                    due("all dots of " + size, d.level(0, 1, 0), wide * high);
                }
            }
        }
    }

    private static void withoutSizeFourAndFour() {
        FlickerDesk d = right(FRAME, 1);
        due("wide without", d.count(0), 4);
        due("high without", d.count(1), 4);
        faulty("frame a15;", 4, 9);
        faulty("frame a17;", 3, 6);
        FlickerDesk e = right("size 8 1;frame a8;", 1);
        due("wide told", e.count(0), 8);
        due("then without", Checks.tell(e, FRAME), 1);
        due("wide without again", e.count(0), 4);
        due("high without again", e.count(1), 4);
        due("then of nothing", Checks.tell(e, ""), 0);
        due("wide of nothing", e.count(0), 4);
    }

    private static void sizeStandsAheadOfAllFrames() {
        right("radius 1;weight 0 1;black 1;white 1;step 1;border 1;spread;size 2 2;frame a4;", 1);
        faulty(FRAME + "size 4 4;", 1, 10);
        faulty(FRAME + "skip 0; size 4 4;", 1, 18);
        faulty(FRAME + "size 9 9;", 1, 10);
        faulty(FRAME + "size", 1, 10);
    }

    // ---- frames

    private static void atMostTwentyFourFrames() {
        for (int many = 0; many <= 24; many++) {
            FlickerDesk d = right("size 1 1;" + frames(many, "frame b;"), many);
            due("frames", d.count(2), many);
        }
        String full = "size 1 1;" + frames(24, "frame b;");
        faulty(full + "frame b;", 5, 201);
        faulty(full + "  frame b;", 5, 203);
        faulty(full + "frame", 5, 201);
        faulty(full + "frame?", 5, 201);
        faulty(full + "frame bb;", 5, 201);
        faulty(full + "framed", 1, 201);
        right(full + "radius 2;cut 23;skip 23; ", 24);
        FlickerDesk e = Checks.dots("", "abcdefghijklmnoponmlkjih");
        for (int t = 0; t < 24; t++) {
            due("numbered as they come " + t, e.shade(t, 0, false), t < 16 ? t : 30 - t);
        }
    }

    private static void shadesAreLettersAToP() {
        for (int sign = 0; sign < 256; sign++) {
            String text = "size 1 1;frame " + (char) sign + ";";
            if (sign >= 'a' && sign <= 'p') {
                due("shade of " + (char) sign, right(text, 1).shade(0, 0, false), sign - 'a');
            } else {
                faulty(text, 1, sign == ' ' ? 16 : 15);
            }
        }
    }

    private static void letterByItselfIsOneDot() {
        right("size 1 1;frame a;", 1);
        right("size 1 1;frame a1;", 1);
        FlickerDesk d = right("size 4 1;frame abca;", 1);
        due("a", d.level(0, 0, 0), 2);
        due("b", d.level(0, 1, 0), 1);
        faulty("size 4 1;frame abc;", 4, 18);
        faulty("size 4 1;frame abcab;", 3, 19);
    }

    private static void runsHaveOneToSixtyFourDots() {
        faulty("size 8 8;frame a0b64;", 2, 16);
        faulty("size 8 8;frame a00b64;", 2, 16);
        for (int many = 1; many < 64; many++) {
            FlickerDesk d = right("size 8 8;frame c" + many + "d" + (64 - many) + ";", 1);
            due("first run of " + many, d.level(0, 2, 0), many);
            due("last of the first run", d.shade(0, many - 1, false), 2);
            due("first of the second run", d.shade(0, many, false), 3);
        }
        due("all of one run", right("size 8 8;frame p64;", 1).frame(0, 0), 960);
        for (int many : new int[] {65, 66, 99, 100, 640, 999, 1000, 1064}) {
            faulty("size 8 8;frame a" + many + ";", 2, 16);
        }
    }

    private static void justAsManyDotsAsPlaces() {
        for (int wide = 1; wide <= 8; wide++) {
            for (int high = 1; high <= 8; high++) {
                String head = "size " + wide + " " + high + ";frame ";
                int size = wide * high;
                right(head + "a".repeat(size) + ";", 1);
                faulty(head + "a".repeat(size) + "b;", 3, 15 + size);
                faulty(head + "a" + size + "b1;", 3, size < 10 ? 17 : 18);
                if (size > 1) {
                    faulty(head + "a".repeat(size - 1) + ";", 4, 14 + size);
                    faulty(head + "a" + (size - 1) + ";", 4, size < 11 ? 17 : 18);
                }
                if (size < 64) {
                    faulty(head + "a" + (size + 1) + ";", 3, 15);
                }
            }
        }
    }

    private static void rowByRow() {
        FlickerDesk d = right("size 3 2;frame ab2cde;frame f6;", 2);
        int[] dots = {0, 1, 1, 2, 3, 4};
        for (int place = 0; place < 6; place++) {
            due("place " + place, d.shade(0, place, false), dots[place]);
            due("place of the next " + place, d.shade(1, place, false), 5);
        }
        // Two to the right is in the same row, one down three places on.
        FlickerDesk e = right("size 3 2;frame baaaaa;frame ccbccc;frame baaaaa;frame cccbcc;", 4);
        due("right", e.shift(0, 0), 4);
        due("not down", e.shift(0, 1), 2);
        due("not right", e.shift(2, 0), 2);
        due("down", e.shift(2, 1), 3);
    }

    // ---- settings

    private static void settingHasBounds(String word, int what, int most) {
        for (int n = 0; n <= most + 3; n++) {
            String text = word + " " + n + ";";
            if (n > most) {
                faulty(text, 2, word.length() + 1);
            } else {
                due(text, right(text, 0).setting(what), n);
            }
        }
        faulty(word + " -1;", 1, word.length() + 1);
        faulty(word + ";", 1, word.length());
        faulty(word + " 1 1;", 1, word.length() + 3);
    }

    private static void settingsHaveBounds() {
        settingHasBounds("radius", 0, 3);
        settingHasBounds("black", 1, 15);
        settingHasBounds("white", 2, 15);
        settingHasBounds("step", 3, 15);
        settingHasBounds("border", 4, 999);
    }

    private static void settingsWithout() {
        FlickerDesk d = right("radius 3;weight 0 9;weight 1 9;weight 2 9;weight 3 9;"
                + "black 2;white 3;step 4;border 5;keyed;", 0);
        due("told again", Checks.tell(d, FRAME), 1);
        int[] without = {1, 0, 15, 15, 0, 0};
        for (int what = 0; what < 6; what++) {
            due("without " + what, d.setting(what), without[what]);
        }
        for (int far = 0; far < 4; far++) {
            due("weight without " + far, d.count(10 + far), 1);
        }
    }

    private static void weightsHaveBounds() {
        for (int far = 0; far <= 5; far++) {
            for (int n = 0; n <= 11; n++) {
                String text = "weight " + far + " " + n + ";";
                if (far > 3) {
                    faulty(text, 2, 7);
                } else if (n < 1 || n > 9) {
                    faulty(text, 2, 9);
                } else {
                    due(text, right(text, 0).count(10 + far), n);
                }
            }
        }
        faulty("weight 0;", 1, 8);
        faulty("weight 0 1 1;", 1, 11);
    }

    private static void oneModeOfBoth() {
        due("none", right(FRAME, 1).setting(5), 0);
        due("spread", right("spread;", 0).setting(5), 1);
        due("keyed", right("keyed;", 0).setting(5), 2);
        faulty("spread;keyed;", 1, 7);
        faulty("keyed; spread;", 1, 7);
        faulty("spread;" + FRAME + "spread;", 1, 17);
        faulty("keyed;" + FRAME + "keyed;", 1, 16);
        faulty("spread 1;", 1, 7);
        faulty("keyed 2;", 1, 6);
    }

    private static void cutsAreToldAheadAndAboveNone() {
        for (int many = 0; many <= 24; many++) {
            String told = "size 1 1;" + frames(many, "frame b;");
            for (int t = 0; t <= many + 1; t++) {
                String text = told + "cut " + t + ";";
                if (t == 0 || t >= many) {
                    faulty(text, 2, told.length() + 4);
                } else {
                    FlickerDesk d = right(text, many);
                    due("begins a scene", d.frame(t, 3), 1);
                    due("cut ones", d.count(4), 1);
                    due("scenes", d.scene(NONE), 2);
                }
            }
        }
        faulty(FRAME + "cut 1;" + FRAME, 2, 14);
        right(FRAME + FRAME + "cut 1;" + FRAME + "cut 2;", 3);
    }

    private static void skipsAreToldAhead() {
        for (int many = 0; many <= 24; many++) {
            String told = "size 1 1;" + frames(many, "frame b;");
            for (int t = 0; t <= many + 1; t++) {
                String text = told + "skip " + t + ";";
                if (t >= many) {
                    faulty(text, 2, told.length() + 5);
                } else {
                    FlickerDesk d = right(text, many);
                    due("is skipped", d.frame(t, 2), 1);
                    due("skipped ones", d.count(3), 1);
                }
            }
        }
        faulty("skip 0;" + FRAME, 2, 5);
        faulty(FRAME + "skip 1;" + FRAME, 2, 15);
    }

    private static void linesToldOnce() {
        String[] lines = {"size 4 4;", "radius 1;", "black 0;", "white 15;", "step 15;", "border 0;", "spread;",
            "keyed;"};
        for (String line : lines) {
            right(line, 0);
            faulty(line + line, 1, line.length());
            faulty(line + " " + line, 1, line.length() + 1);
            faulty(line + "weight 0 1;" + line, 1, line.length() + 11);
            faulty(line + line.substring(0, line.indexOf(line.indexOf(' ') < 0 ? ";" : " ")), 1, line.length());
            FlickerDesk d = right(line, 0);
            due("in another text " + line, Checks.tell(d, line), 0);
        }
        faulty("radius 1;radius 2;", 1, 9);
        faulty("radius 1;radius 4;", 1, 9);
    }

    private static void linesToldOnceForEach() {
        StringBuilder all = new StringBuilder("size 1 1;weight 3 2;weight 2 3;weight 1 4;weight 0 5;");
        all.append(frames(24, "frame b;"));
        for (int t = 23; t >= 0; t--) {
            all.append("skip ").append(t).append(';').append(t == 0 ? "" : "cut " + t + ";");
        }
        FlickerDesk d = right(all.toString(), 24);
        due("all skipped", d.count(3), 24);
        due("all cut but the first", d.count(4), 23);
        due("weight 3", d.count(13), 2);
        due("weight 0", d.count(10), 5);
        for (int far = 0; far < 4; far++) {
            faulty("weight " + far + " 1;weight " + far + " 1;", 1, 18);
            faulty("weight " + far + " 1;weight 0" + far + " 9;", 1, 18);
            faulty("weight " + far + " 1;weight " + far, 1, 18);
            faulty("weight " + far + " 1;weight  " + far + " 0;", 1, 19);
        }
        String two = FRAME + FRAME;
        faulty(two + "cut 1;skip 0;cut 1;", 1, 37);
        faulty(two + "cut 1;cut 001;", 1, 30);
        faulty(two + "skip 0;cut 1;skip 0;", 1, 38);
        faulty(two + "skip 1;skip 1;", 1, 32);
        FlickerDesk e = right(two + "cut 1;skip 1;", 2);
        due("in another text", Checks.tell(e, two + "cut 1;skip 1;"), 2);
    }

    // ---- words, numbers, blanks

    private static void wordsAndNumbersEndWhereTheyEnd() {
        faulty("radiu 1;", 1, 0);
        faulty("radiuss 1;", 1, 0);
        faulty("radius" + "`" + "1;", 1, 6);
        faulty("radius" + "{" + "1;", 1, 6);
        faulty("radius 1/;", 1, 8);
        faulty("radius 1:;", 1, 8);
        faulty("radius 1x;", 1, 8);
        faulty("radius 1x", 1, 8);
        faulty("z;", 1, 0);
        faulty("zsize 1 1;", 1, 0);
        faulty("sizez 1 1;", 1, 0);
        faulty("sizeA1 1;", 1, 4);
        right("radius1;step2;", 0);
        for (String word : new String[] {"size", "frame", "radius", "weight", "black", "white", "step", "border",
            "spread", "keyed", "cut", "skip"}) {
            String text = "  " + word;
            faulty(text, 1, text.length());
            faulty(text.substring(0, text.length() - 1), 1, 2);
            faulty(text + "s;", 1, 2);
            faulty("  " + word.toUpperCase() + ";", 1, 2);
        }
    }

    /** Of all bytes but small letters, digits, ; and blanks none can stand anywhere. */
    private static void otherBytesStandNowhere() {
        for (int sign = 0; sign < 256; sign++) {
            boolean isLetter = sign >= 'a' && sign <= 'z';
            boolean isDigit = sign >= '0' && sign <= '9';
            if (isLetter || isDigit || sign == ';' || sign == ' ') {
                continue;
            }
            char c = (char) sign;
            faulty(c + "radius 1;", 1, 0);
            faulty("radius" + c + "1;", 1, 6);
            faulty("radius 1" + c + ";", 1, 8);
            faulty("radius 1;" + c, 1, 9);
            faulty("frame" + c + "a16;", 1, 5);
            faulty("frame a" + c + "16;", 1, 7);
            faulty("frame a8" + c + "b8;", 1, 8);
            faulty("frame a16" + c + ";", 1, 9);
        }
    }

    private static final String[] TOKENS = {"size", "3", "2", ";", "radius", "2", ";", "weight", "1", "7", ";", "black",
        "2", ";", "white", "12", ";", "step", "3", ";", "border", "50", ";", "keyed", ";", "frame", "a", "b", "2", "c",
        "1", "d", "2", ";", "frame", "p", "6", ";", "cut", "1", ";", "skip", "0", ";"};

    private static boolean isWord(String token) {
        return token.length() > 1 && token.charAt(0) >= 'a';
    }

    private static boolean isNumber(String token) {
        return token.charAt(0) <= '9';
    }

    private static String joined(String between, String needed) {
        StringBuilder text = new StringBuilder(between);
        for (int i = 0; i < TOKENS.length; i++) {
            text.append(TOKENS[i]);
            boolean isLast = i == TOKENS.length - 1;
            boolean needs = !isLast && (isNumber(TOKENS[i]) && isNumber(TOKENS[i + 1])
                    || isWord(TOKENS[i]) && TOKENS[i + 1].charAt(0) >= 'a');
            text.append(needs ? needed : between);
        }
        return text.toString();
    }

    private static void blanksBetweenAll() {
        FlickerDesk plain = right("size 3 2;radius 2;weight 1 7;black 2;white 12;step 3;border 50;keyed;"
                + "frame ab2cd2;frame p6;cut 1;skip 0;", 2);
        Look.compare(CHECKS, "as few blanks as may be", right(joined("", " "), 2), plain);
        Look.compare(CHECKS, "a blank everywhere", right(joined(" ", " "), 2), plain);
        Look.compare(CHECKS, "many blanks", right(joined("    ", "     "), 2), plain);
        right(" ", 0);
        right(" ".repeat(900), 0);
    }

    private static void blanksThatMustBe() {
        faulty("size 44;", 2, 5);
        faulty("size 4;", 1, 6);
        faulty("size 88 1;", 2, 5);
        faulty("weight 11;", 2, 7);
        faulty("weight 31;", 2, 7);
        faulty("weight 01;", 1, 9);
        faulty("framea16;", 1, 0);
        faulty("frameabcdefghijklmnop;", 1, 0);
        right("frame abcdefghijklmnop;", 1);
        right("frame a b c d e f g h i j k l m n o p;", 1);
    }

    private static void blanksThatMustNotBe() {
        faulty("si ze 4 4;", 1, 0);
        faulty("radi us 1;", 1, 0);
        faulty("fra me a16;", 1, 0);
        faulty("border 9 9;", 1, 9);
        faulty("frame a1 6;", 1, 9);
        faulty("size 1 6 1;", 1, 9);
    }

    private static void threeDigitsAtMost() {
        due("1", right("radius 1;", 0).setting(0), 1);
        due("02", right("radius 02;", 0).setting(0), 2);
        due("003", right("radius 003;", 0).setting(0), 3);
        faulty("radius 0003;", 2, 7);
        faulty("radius 0000;", 2, 7);
        due("000", right("radius 000;", 0).setting(0), 0);
        due("099", right("border 099;", 0).setting(4), 99);
        right("size 008 001;frame a008;", 1);
        faulty("size 0008 1;", 2, 5);
        faulty("size 8 0001;", 2, 7);
        faulty("weight 0001 1;", 2, 7);
        faulty("weight 1 0001;", 2, 9);
        faulty("frame a0016;", 2, 7);
        faulty(FRAME + FRAME + "cut 0001;", 2, 24);
        faulty(FRAME + "skip 0000;", 2, 15);
        right(FRAME + FRAME + "cut 001;skip 000;", 2);
        faulty("border 4294967296;", 2, 7);
        faulty("radius " + "0".repeat(892) + "1", 2, 7);
    }

    // ---- the end

    private static void endOfTheText() {
        String text = "size 2 1;frame ab;cut  ";
        int[] places = {NONE, 0, 0, 0, 4, 5, 6, 7, 8, NONE, 9, 9, 9, 9, 14, 15, 16, 17, NONE, 18, 18, 21, 22, 23};
        for (int n = 0; n < places.length; n++) {
            if (places[n] == NONE) {
                right(text.substring(0, n), n < 18 ? 0 : 1);
            } else {
                faulty(text.substring(0, n), 1, places[n]);
            }
        }
    }

    /** Bytes behind those that are told do not matter. */
    private static void endIsThatOfWhatIsTold() {
        String text = "radius 2;step 30;";
        FlickerDesk d = new FlickerDesk();
        int[][] told = {{9, 0, NONE}, {10, 1, 9}, {13, 1, 13}, {14, 1, 14}, {15, 1, 15}, {16, 2, 14}, {17, 2, 14}};
        for (int[] row : told) {
            Checks.feed(d, text);
            due("tell " + row[0], d.tell(row[0]), row[1] == 0 ? 0 : -30 - row[1]);
            due("fault of " + row[0], d.fault(0), row[1]);
            due("place of " + row[0], d.fault(1), row[2]);
            due("the tape is empty behind " + row[0], d.count(6), 0);
        }
        due("radius stays", d.setting(0), 2);
        due("step stays", d.setting(3), 15);
    }

    // ---- faults

    private static void faultsOfOnePlace() {
        // 1 and 2: a number that can't stand there, however long or great it is.
        faulty("7777;", 1, 0);
        faulty("radius 1 7777;", 1, 9);
        faulty("frame 7777;", 1, 6);
        faulty("frame a8 99;", 1, 9);
        faulty("spread 9999;", 1, 7);
        // 1 and 3: a letter that is no shade, though there are dots enough.
        faulty("frame a16q;", 1, 9);
        faulty("frame a16q99;", 1, 9);
        // 1 and 4: a ; that stands behind no run.
        faulty("frame ;", 1, 6);
        faulty("frame;", 1, 5);
        // 1 and 6: the end.
        faulty("black 9;white 8;step 1", 1, 22);
        faulty("black 9;white 8", 1, 15);
    }

    private static void firstFaultAlongTheText() {
        faulty("radius 4;oops;", 2, 7);
        faulty("oops;radius 4;", 1, 0);
        faulty("frame a15;frame a17;", 4, 9);
        faulty("frame a17;frame a15;", 3, 6);
        faulty("frame a17;black 16;", 3, 6);
        faulty("black 16;frame a17;", 2, 6);
        String full = "size 1 1;" + frames(24, "frame b;");
        faulty(full + "radius 4;frame b;", 2, 208);
        faulty(full + "frame b;radius 4;", 5, 201);
        faulty("size 0 0;", 2, 5);
        faulty("size 1 x;", 1, 7);
        faulty("size 0 x;", 2, 5);
        faulty("weight 4 0;", 2, 7);
        faulty("weight 1 2;weight 1 0;", 1, 18);
    }

    private static void runsAreCountedBehindTheirNumber() {
        faulty("frame a17;", 3, 6);
        faulty("frame a  17 ;", 3, 6);
        faulty("frame a17", 3, 6);
        faulty("frame a17?", 3, 6);
        faulty("frame a64;", 3, 6);
        faulty("frame a65;", 2, 7);
        faulty("frame a16b;", 3, 9);
        faulty("frame a16b", 3, 9);
        faulty("frame a16b?", 3, 9);
        faulty("frame a16b1;", 3, 9);
        faulty("frame a16b64;", 3, 9);
        faulty("frame a16b65;", 2, 10);
        faulty("frame a16b0;", 2, 10);
        faulty("frame a16b 0001;", 2, 11);
        faulty("frame a16bc;", 3, 9);
        faulty("frame a15bc;", 3, 10);
    }

    private static void blackAboveWhite() {
        for (int black = 0; black < 16; black++) {
            for (int white = 0; white < 16; white++) {
                String one = "black " + black + ";white " + white + ";";
                String other = " white " + white + ";black " + black + ";" + FRAME + " ";
                if (black > white) {
                    faulty(one, 6, one.length());
                    faulty(other, 6, other.length());
                } else {
                    FlickerDesk d = right(one, 0);
                    due("black of " + one, d.setting(1), black);
                    due("white of " + one, d.setting(2), white);
                    right(other, 1);
                }
            }
        }
    }

    private static void blackAboveWhiteOnlyWithoutOthers() {
        String wrong = "black 9;white 8;";
        faulty(wrong, 6, 16);
        faulty(wrong + "?", 1, 16);
        faulty(wrong + "step 16;", 2, 21);
        faulty(wrong + "frame a17;", 3, 22);
        faulty(wrong + "frame a15;", 4, 25);
        faulty(wrong + "size 1 1;" + frames(25, "frame b;"), 5, 217);
    }

    private static void withAFaultAllStays() {
        String full = "size 1 1;" + frames(25, "frame b;");
        String[] texts = {"size 3 3;radius 0;weight 3 2;frame a9;skip 0;?", "radius 0;step 99;", "step 1;frame b17;",
            "border 7;frame b15;", full, "white 3;black 4;frame c16;spread;"};
        int[] places = {45, 14, 13, 18, 201, 33};
        for (int fault = 1; fault <= 6; fault++) {
            FlickerDesk d = Look.richDesk();
            FlickerDesk e = Look.richDesk();
            refuseTape(d);
            refuseTape(e);
            due("fault " + fault, Checks.tell(d, texts[fault - 1]), -30 - fault);
            due("its number", d.fault(0), fault);
            due("its place", d.fault(1), places[fault - 1]);
            due("its tape", d.count(6), 0);
            // A text of one wrong byte has a fault of its own: both desks have the same one then.
            Checks.tell(d, "?");
            Checks.tell(e, "?");
            Look.same(CHECKS, "behind fault " + fault, d, e);
        }
    }

    /** What the tape holds is told with a fault, so that it is empty and nothing else changes. */
    private static void refuseTape(FlickerDesk d) {
        Checks.feed(d, "?");
        due("a faulty text", d.tell(d.count(6)), -31);
    }

    private static void inPlaceOfAllToldAhead() {
        FlickerDesk d = Look.richDesk();
        due("of no byte", d.tell(0), 0);
        Look.same(CHECKS, "told nothing", d, new FlickerDesk());
        FlickerDesk e = Look.richDesk();
        due("the tape is left out", e.tell(8), 0);
        Look.same(CHECKS, "told one setting", e, Checks.desk("black 4;"));
        FlickerDesk f = Look.richDesk();
        due("a frame", f.tell(18), 1);
        Look.same(CHECKS, "told a frame", f, Checks.desk("black 4;frame a16;"));
    }

    /** What was asked ahead of a text is answered anew behind it. */
    private static void askedAheadAndBehind() {
        // One dot comes to the lightest of its window: g, g, k, k.
        FlickerDesk d = Checks.dots("", "cgck");
        int[] ahead = {16, 4, 3, 2, 3, 4, 0};
        int[] behind = {8, 8, 1, 1, 2, 8, 0};
        compareAsked("ahead", d, ahead);
        due("told anew", Checks.tell(d, "size 1 1;frame k;frame c;frame c;frame c;"), 4);
        compareAsked("behind", d, behind);
        due("told once more", Checks.tell(d, "size 1 1;frame c;frame g;frame c;frame k;"), 4);
        compareAsked("again", d, ahead);
        due("a faulty text", Checks.tell(d, "size 1 1;frame k;frame c;frame c;frame c;?"), -31);
        compareAsked("still", d, ahead);
    }

    private static void compareAsked(String when, FlickerDesk d, int[] want) {
        int[] got = {d.flicker(false), d.flicker(true), d.parted(2, 1), d.period(), d.alike(NONE), d.apart(0, 1, false),
            d.apart(0, 1, true)};
        for (int i = 0; i < want.length; i++) {
            due("asked " + when + ", " + i, got[i], want[i]);
        }
    }

    private static void textsOfNineHundredBytes() {
        String blanks = " ".repeat(891);
        due("a line at the end", right(blanks + "radius 3;", 0).setting(0), 3);
        faulty(" " + blanks + "radius 3", 1, 900);
        faulty(" ".repeat(899) + "?", 1, 899);
        faulty(" ".repeat(894) + "radius", 1, 900);
        faulty("black 1;white 0;" + " ".repeat(884), 6, 900);
        // As many frames of as many single dots as go on the tape.
        String line = "frame " + "abcdefgh".repeat(8) + ";";
        right("size 8 8;" + frames(12, line), 12);
        faulty("size 8 8;" + frames(12, line) + "frame abcdefghijklmnopq", 1, 883);
    }
}
