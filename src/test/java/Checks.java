/** Counts what is wrong, prints it, and tells texts to desks. */
final class Checks {
    private static final int SHOWN = 40;
    private final String name;
    private int done;
    private int wrong;

    Checks(String name) {
        this.name = name;
    }

    void due(String call, long got, long want) {
        done++;
        if (got != want) {
            complain(call + " answered " + got + ", due is " + want);
        }
    }

    void complain(String what) {
        wrong++;
        if (wrong <= SHOWN) {
            System.out.println(name + ": " + what);
        }
    }

    void end() {
        System.out.println(name + ": " + done + " checks, " + wrong + " wrong");
        if (wrong != 0 || done == 0) {
            System.exit(1);
        }
    }

    /** Five ints of a text, as feed() takes them; bytes behind its end are 0. */
    static int[] ints(String text, int from) {
        int[] five = new int[5];
        for (int i = 0; i < 20; i++) {
            int sign = from + i < text.length() ? text.charAt(from + i) & 255 : 0;
            five[i / 4] = five[i / 4] << 8 | sign;
        }
        return five;
    }

    static void feed(FlickerDesk desk, String text) {
        for (int from = 0; from < text.length(); from += 20) {
            int[] five = ints(text, from);
            desk.feed(five[0], five[1], five[2], five[3], five[4]);
        }
    }

    static int tell(FlickerDesk desk, String text) {
        feed(desk, text);
        return desk.tell(text.length());
    }

    /** A new desk refuses the text by a fault at a place, and is empty behind it. */
    void faulty(String text, int fault, int place) {
        FlickerDesk desk = new FlickerDesk();
        due("tell " + text, tell(desk, text), -30 - fault);
        due("fault(0) of " + text, desk.fault(0), fault);
        due("fault(1) of " + text, desk.fault(1), place);
        due("count(6) behind " + text, desk.count(6), 0);
        due("count(2) behind " + text, desk.count(2), 0);
    }

    /** A new desk takes the text. */
    FlickerDesk right(String text, int frames) {
        FlickerDesk desk = new FlickerDesk();
        due("tell " + text, tell(desk, text), frames);
        due("fault(0) of " + text, desk.fault(0), 0);
        due("fault(1) of " + text, desk.fault(1), FlickerDesk.NONE);
        return desk;
    }

    /** A film of frames with one dot each, so that a frame's mean is its shade. */
    static FlickerDesk dots(String head, String shades) {
        StringBuilder text = new StringBuilder("size 1 1;").append(head);
        for (char c : shades.toCharArray()) {
            text.append("frame ").append(c).append(';');
        }
        return desk(text.toString());
    }

    static FlickerDesk desk(String text) {
        FlickerDesk desk = new FlickerDesk();
        int frames = tell(desk, text);
        if (frames < 0) {
            throw new IllegalArgumentException("a test's text is faulty (" + frames + " at "
                    + desk.fault(1) + "): " + text);
        }
        return desk;
    }
}
