import java.util.ArrayList;
import java.util.List;

/** All that a desk tells of itself, so that two desks can be compared; few enough calls to stay below 512. */
final class Look {
    private static final String RICH = "size 2 1;radius 2;weight 1 3;black 1;white 14;step 5;border 40;"
            + "frame bc;frame gi;frame ek;cut 2;skip 1;";

    private Look() {
    }

    /** A desk on which nothing is as on a new one: a film, four acts, a fault, and a text left on the tape. */
    static FlickerDesk richDesk() {
        FlickerDesk desk = Checks.desk(RICH);
        desk.set(4, 50);
        desk.weight(2, 7);
        desk.dot(1, 1, 9);
        desk.take();
        Checks.tell(desk, "radius 9;");
        Checks.feed(desk, "black 4;frame a16;");
        return desk;
    }

    /** The desks are alike now, after each undo, and behind the text that is left on their tapes. */
    static void same(Checks checks, String what, FlickerDesk one, FlickerDesk other) {
        compare(checks, what, one, other);
        int acts = other.count(5);
        for (int i = 1; i <= acts; i++) {
            checks.due(what + ", undo " + i, one.undo(), other.undo());
            compare(checks, what + ", undone " + i, one, other);
        }
        int bytes = other.count(6);
        checks.due(what + ", tell", one.tell(bytes), other.tell(bytes));
        compare(checks, what + ", told", one, other);
    }

    static void compare(Checks checks, String what, FlickerDesk one, FlickerDesk other) {
        List<Integer> got = at(one);
        List<Integer> want = at(other);
        checks.due(what + ", how much there is to see", got.size(), want.size());
        for (int i = 0; i < Math.min(got.size(), want.size()); i++) {
            checks.due(what + ", look " + i, got.get(i), want.get(i));
        }
    }

    private static List<Integer> at(FlickerDesk desk) {
        List<Integer> all = new ArrayList<>();
        all.add(desk.fault(0));
        all.add(desk.fault(1));
        for (int what = 0; what < 14; what++) {
            all.add(desk.count(what));
        }
        for (int what = 0; what < 6; what++) {
            all.add(desk.setting(what));
        }
        all.add(desk.flicker(false));
        all.add(desk.flicker(true));
        int size = desk.count(0) * desk.count(1);
        for (int t = 0; t < desk.count(2); t++) {
            for (int what = 0; what < 9; what++) {
                all.add(desk.frame(t, what));
            }
            for (int place = 0; place < size; place++) {
                all.add(desk.shade(t, place, false));
                all.add(desk.shade(t, place, true));
            }
        }
        return all;
    }
}
