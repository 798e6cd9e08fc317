/** The text: each fault with its place, and what is no fault. */
public final class FaultsTest {
    private static final Checks CHECKS = new Checks("FaultsTest");
    private static final String FRAME = "frame a16;";

    private FaultsTest() {
    }

    public static void main(String[] args) {
        whatCannotStandThere();
        toldTwice();
        numbers();
        runs();
        frames();
        blackAboveWhite();
        theFirstFault();
        rightTexts();
        aFaultChangesNothing();
        CHECKS.end();
    }

    private static void faulty(String text, int fault, int place) {
        CHECKS.faulty(text, fault, place);
    }

    private static FlickerDesk right(String text, int frames) {
        return CHECKS.right(text, frames);
    }

    private static void whatCannotStandThere() {
        faulty(";", 1, 0);
        faulty("  ;", 1, 2);
        faulty("7;", 1, 0);
        faulty("7777;", 1, 0);
        faulty("Size 4 4;", 1, 0);
        faulty("sizes 4 4;", 1, 0);
        faulty("xize 4 4;", 1, 0);
        faulty("sixe 4 4;", 1, 0);
        faulty("siz", 1, 0);
        faulty("sizE 4 4;", 1, 0);
        faulty("size", 1, 4);
        faulty("size  ", 1, 6);
        faulty("size;", 1, 4);
        faulty("size 4;", 1, 6);
        faulty("size 4", 1, 6);
        faulty("size 4 4", 1, 8);
        faulty("size 4 4  ", 1, 10);
        faulty("size 4 4 4;", 1, 9);
        faulty("size 4,4;", 1, 6);
        faulty("size 4 4;;", 1, 9);
        faulty("size a 4;", 1, 5);
        faulty("size -1 4;", 1, 5);
        faulty("spread 1;", 1, 7);
        faulty("spread", 1, 6);
        faulty("keyed keyed;", 1, 6);
        faulty("spreadkeyed;", 1, 0);
        faulty("radius 1 radius 2;", 1, 9);
        faulty("weight 1;", 1, 8);
        faulty("weight;", 1, 6);
        faulty("cut;", 1, 3);
        faulty("skip;", 1, 4);
        faulty("radius\t1;", 1, 6);
        faulty("radius 1;\n", 1, 9);
        faulty("radius 1;" + (char) 0, 1, 9);
        faulty("radius 1;" + (char) 0xE9, 1, 9);
        faulty("radius " + (char) 0xB1 + ";", 1, 7);
        faulty("step 1;" + FRAME + "size 4 4;", 1, 17);
        faulty("frame", 1, 5);
        faulty("frame ", 1, 6);
        faulty("frame;", 1, 5);
        faulty("frame 16;", 1, 6);
        faulty("frame16;", 1, 5);
        faulty("framea16;", 1, 0);
        faulty("frame A16;", 1, 6);
        faulty("frame q16;", 1, 6);
        faulty("frame a8q8;", 1, 8);
        faulty("frame a8 8;", 1, 9);
        faulty("frame a8 8888;", 1, 9);
        faulty("frame a8,b8;", 1, 8);
        faulty("frame a16", 1, 9);
        faulty("frame a15", 1, 9);
        faulty("frame a16 ", 1, 10);
    }

    private static void toldTwice() {
        faulty("size 4 4;size 4 4;", 1, 9);
        faulty("size 4 4; size", 1, 10);
        faulty("radius 1;radius 1;", 1, 9);
        faulty("black 1;black 1;", 1, 8);
        faulty("white 1;white 1;", 1, 8);
        faulty("step 1;step 1;", 1, 7);
        faulty("border 1;border 1;", 1, 9);
        faulty("spread;spread;", 1, 7);
        faulty("keyed;keyed;", 1, 6);
        faulty("spread;keyed;", 1, 7);
        faulty("keyed;spread;", 1, 6);
        faulty("weight 2 5;weight 2 5;", 1, 18);
        faulty("weight 2 5;weight 2;", 1, 18);
        faulty("weight 2 5;weight 002 0;", 1, 18);
        faulty(FRAME + FRAME + "cut 1;cut 1;", 1, 30);
        faulty(FRAME + "skip 0;skip  0;", 1, 23);
        faulty(FRAME + "size 4 4;", 1, 10);
    }

    private static void numbers() {
        faulty("size 0 4;", 2, 5);
        faulty("size 9 4;", 2, 5);
        faulty("size 4 0;", 2, 7);
        faulty("size 4 9;", 2, 7);
        faulty("size4 0004;", 2, 6);
        faulty("radius 4;", 2, 7);
        faulty("radius  0001;", 2, 8);
        faulty("radius 99999999999999999999;", 2, 7);
        faulty("radius 4294967297;", 2, 7);
        faulty("weight 4 1;", 2, 7);
        faulty("weight 0 0;", 2, 9);
        faulty("weight 0 10;", 2, 9);
        faulty("black 16;", 2, 6);
        faulty("white 16;", 2, 6);
        faulty("step 16;", 2, 5);
        faulty("border 1000;", 2, 7);
        faulty("border 0999;", 2, 7);
        faulty("cut 0;", 2, 4);
        faulty("cut 1;", 2, 4);
        faulty(FRAME + "cut 0;", 2, 14);
        faulty(FRAME + "cut 1;" + FRAME, 2, 14);
        faulty(FRAME + FRAME + "cut 2;", 2, 24);
        faulty("skip 0;", 2, 5);
        faulty(FRAME + "skip 1;" + FRAME, 2, 15);
        faulty(FRAME + "skip 0000;", 2, 15);
        faulty("frame a0;", 2, 7);
        faulty("frame a65;", 2, 7);
        faulty("frame a 65;", 2, 8);
        faulty("frame a0016;", 2, 7);
        faulty("frame a16 b65;", 2, 11);
        faulty("frame a16 b0;", 2, 11);
    }

    private static void runs() {
        faulty("frame a17;", 3, 6);
        faulty("frame a 17;", 3, 6);
        faulty("frame a16b;", 3, 9);
        faulty("frame a16b", 3, 9);
        faulty("frame a8 b9;", 3, 9);
        faulty("frame aaaaaaaaaaaaaaaaa;", 3, 22);
        faulty("size 1 1;frame ab;", 3, 16);
        faulty("size 8 8;frame a64b?", 3, 18);
        faulty("frame a16 frame a16;", 3, 10);
        faulty("frame a15;", 4, 9);
        faulty("frame a15 ;", 4, 10);
        faulty("frame a ;", 4, 8);
        faulty("size 8 8;frame a63;", 4, 18);
    }

    private static void frames() {
        StringBuilder text = new StringBuilder("size 1 1;");
        for (int i = 0; i < 24; i++) {
            text.append("frame b;");
        }
        right(text.toString(), 24);
        right(text + "cut 23;skip 23;", 24);
        faulty(text + "frame b;", 5, 201);
        faulty(text + " frame", 5, 202);
        faulty(text + "frames", 1, 201);
        faulty(text + "cut 24;", 2, 205);
    }

    private static void blackAboveWhite() {
        faulty("black 9;white 8;", 6, 16);
        faulty("white 8;black 9;  ", 6, 18);
        faulty("white 0;black 1;" + FRAME, 6, 26);
        faulty("black 9;white 8;?", 1, 16);
        faulty("black 9;white 8;step 16;", 2, 21);
        right("black 9;white 9;", 0);
        right("white 0;", 0);
        right("black 15;", 0);
    }

    private static void theFirstFault() {
        faulty("radius 4;size 0 0;", 2, 7);
        faulty("frame a15;frame a17;", 4, 9);
        faulty("frame a17;frame a15;", 3, 6);
        faulty("weight 1 2;weight 1 0;", 1, 18);
        faulty("weight 1 0;weight 1 2;", 2, 9);
    }

    private static void rightTexts() {
        right("", 0);
        right("   ", 0);
        FlickerDesk desk = right(" size3 2 ; radius 003;weight0 9;weight 3 4;black2;white 12;step 0;border 999;"
                + "frame a b 1 c04;  frame  ppp ppp ;cut 1;skip 0;skip 1;keyed ;", 2);
        int[] counts = {3, 2, 2, 2, 1, 0, 0};
        for (int what = 0; what < counts.length; what++) {
            CHECKS.due("count " + what, desk.count(what), counts[what]);
        }
        int[] settings = {3, 2, 12, 0, 999, 2};
        for (int what = 0; what < settings.length; what++) {
            CHECKS.due("setting " + what, desk.setting(what), settings[what]);
        }
        int[] weights = {9, 1, 1, 4};
        for (int far = 0; far < weights.length; far++) {
            CHECKS.due("weight " + far, desk.count(10 + far), weights[far]);
        }
        int[] dots = {0, 1, 2, 2, 2, 2};
        for (int place = 0; place < dots.length; place++) {
            CHECKS.due("dot " + place, desk.shade(0, place, false), dots[place]);
            CHECKS.due("dot of the second " + place, desk.shade(1, place, false), 15);
        }
        CHECKS.due("spread", right("spread;", 0).setting(5), 1);
        right("size 8 8;frame a64;", 1);
        right("size 8 8;frame a1b1c62;frame p64;", 2);
        right("border 0;radius 0;white 15;weight 1 1;", 0);
    }

    private static void aFaultChangesNothing() {
        FlickerDesk desk = Checks.desk("size 2 1;frame bc;frame de;radius 3;step 2;");
        desk.set(4, 7);
        CHECKS.due("a faulty text", Checks.tell(desk, "size 3 3;step 9;frame a9;oops"), -31);
        CHECKS.due("its place", desk.fault(1), 25);
        CHECKS.due("wide", desk.count(0), 2);
        CHECKS.due("frames", desk.count(2), 2);
        CHECKS.due("acts", desk.count(5), 1);
        CHECKS.due("radius", desk.setting(0), 3);
        CHECKS.due("step", desk.setting(3), 2);
        CHECKS.due("border", desk.setting(4), 7);
        CHECKS.due("a dot", desk.shade(1, 1, false), 4);
        CHECKS.due("undo", desk.undo(), 0);
        CHECKS.due("border undone", desk.setting(4), 0);
    }
}
