import java.util.NoSuchElementException;
import java.util.Random;

/** Runs of calls by a fixed seed, each answered by the desk and by the model. */
public final class ModelTest {
    private static final int RUNS = 1500;
    private static final int CALLS = 90;
    private static final Checks CHECKS = new Checks("ModelTest");
    private static final int THROWN = Integer.MIN_VALUE;
    private static Random random;
    private static FlickerDesk desk;
    private static Model model;

    private ModelTest() {
    }

    public static void main(String[] args) {
        for (int run = 0; run < RUNS; run++) {
            random = new Random(run);
            desk = new FlickerDesk();
            model = new Model();
            int texts = random.nextInt(4) == 0 ? 3 : 1;
            for (int i = 0; i < texts; i++) {
                tell(run, text());
                for (int call = 0; call < CALLS / texts; call++) {
                    anyCall(run);
                }
            }
        }
        for (int run = RUNS; run < 10 * RUNS; run++) {
            random = new Random(run);
            desk = new FlickerDesk();
            model = new Model();
            tell(run, spoiled(text()));
            compareState(run);
        }
        CHECKS.end();
    }

    private static int upTo(int n) {
        return random.nextInt(n + 1);
    }

    private static int oneOf(int... all) {
        return all[random.nextInt(all.length)];
    }

    private static void tell(int run, String text) {
        for (int from = 0; from < text.length(); from += 20) {
            int[] five = Checks.ints(text, from);
            same(run, "feed", desk.feed(five[0], five[1], five[2], five[3], five[4]),
                    model.feed(five[0], five[1], five[2], five[3], five[4]));
        }
        String call = "tell(" + text + ")";
        same(run, call, desk.tell(text.length()), model.tell(text.length()));
        same(run, call + " fault(0)", desk.fault(0), model.fault(0));
        same(run, call + " fault(1)", desk.fault(1), model.fault(1));
    }

    private static void compareState(int run) {
        for (int what = 0; what < 14; what++) {
            same(run, "count " + what, desk.count(what), model.count(what));
            same(run, "setting " + what, desk.setting(what), model.setting(what));
        }
    }

    private static void same(int run, String call, int got, int want) {
        CHECKS.due("run " + run + ": " + call, got, want);
    }

    // ---- texts

    private static String text() {
        StringBuilder text = new StringBuilder();
        int wide = 4;
        int high = 4;
        if (upTo(3) > 0) {
            wide = 1 + upTo(7);
            high = 1 + upTo(7);
            text.append("size ").append(wide).append(' ').append(high).append(';');
        }
        if (upTo(2) > 0) {
            settingLines(text, wide * high);
        }
        int frames = oneOf(0, 1, 2, 3, 4, 5, 6, 8, 10, 12, 24);
        int[] base = new int[wide * high];
        for (int t = 0; t < frames; t++) {
            frameLine(text, base);
            if (upTo(5) == 0) {
                text.append("skip ").append(t).append(';');
            }
            if (t > 0 && upTo(7) == 0) {
                text.append("cut ").append(t).append(';');
            }
        }
        return text.length() > 900 ? text.substring(0, text.lastIndexOf(";", 890) + 1) : text.toString();
    }

    private static void settingLines(StringBuilder text, int size) {
        int black = upTo(2) == 0 ? upTo(15) : 0;
        int white = upTo(2) == 0 ? black + upTo(15 - black) : 15;
        text.append("black ").append(black).append(";white").append(white).append(';');
        if (upTo(1) == 0) {
            text.append("radius ").append(upTo(3)).append(';');
        }
        for (int far = 0; far < 4; far++) {
            if (upTo(2) == 0) {
                text.append("weight ").append(far).append(' ').append(1 + upTo(8)).append(';');
            }
        }
        if (upTo(1) == 0) {
            text.append("step ").append(upTo(15)).append(';');
        }
        if (upTo(2) == 0) {
            text.append("border ").append(upTo(Math.min(999, 4 * size))).append(';');
        }
        text.append(oneOf(0, 1) == 0 ? "" : oneOf(0, 1) == 0 ? "spread;" : "keyed;");
    }

    /** A frame somewhat like the one ahead, lighter or darker as a whole, or a new one. */
    private static void frameLine(StringBuilder text, int[] base) {
        int kind = upTo(9);
        if (kind == 0 || text.indexOf("frame") < 0) {
            int from = upTo(15);
            int spread = oneOf(0, 1, 2, 3, 15);
            for (int p = 0; p < base.length; p++) {
                int s = p > 0 && upTo(3) > 0 ? base[p - 1] : from + upTo(spread);
                base[p] = Math.min(15, s);
            }
        } else if (kind < 7) {
            int by = upTo(6) - 3;
            for (int p = 0; p < base.length; p++) {
                base[p] = Math.max(0, Math.min(15, base[p] + by));
            }
            base[random.nextInt(base.length)] = upTo(15);
        }
        text.append("frame ");
        int p = 0;
        while (p < base.length) {
            int q = p;
            while (q < base.length && base[q] == base[p]) {
                q++;
            }
            text.append((char) ('a' + base[p]));
            if (q - p > 1) {
                text.append(upTo(9) == 0 ? " " : "").append(q - p);
            }
            text.append(upTo(9) == 0 ? " " : "");
            p = q;
        }
        text.append(';');
    }

    /** A text with a few signs put in, taken out or changed, or a line told again. */
    private static String spoiled(String text) {
        StringBuilder s = new StringBuilder(text);
        String signs = " ;;0123456789aepqz?\n";
        String[] lines = {"size 2 2;", "frame a16;", "radius 2;", "weight 1 3;", "black 5;", "white 4;", "step 3;",
            "border 1000;", "border 999;", "spread;", "keyed;", "cut 1;", "skip 0;", "skip 23;", "frame", "sizes;",
            "weight 4 1;", "weight 1 10;", "cut 0;", "radius 0001;", "black 16;", " 7 ", "size 9 1;", "size 1 0;"};
        int times = 1 + upTo(2);
        for (int i = 0; i < times; i++) {
            int at = upTo(s.length());
            switch (upTo(4)) {
                case 0 -> s.insert(at, signs.charAt(random.nextInt(signs.length())));
                case 1 -> s.delete(at, Math.min(s.length(), at + 1));
                case 2 -> s.replace(at, Math.min(s.length(), at + 1),
                        "" + signs.charAt(random.nextInt(signs.length())));
                case 3 -> s.insert(s.indexOf(";", at) + 1, lines[random.nextInt(lines.length)]);
                default -> s.setLength(at);
            }
        }
        return s.length() > 900 ? s.substring(0, 900) : s.toString();
    }

    // ---- calls

    private static int aFrame() {
        int frames = desk.count(2);
        return upTo(19) == 0 ? oneOf(-2, -1, frames, frames + 1) : upTo(Math.max(0, frames - 1));
    }

    private static int aPlace() {
        int size = desk.count(0) * desk.count(1);
        return upTo(19) == 0 ? oneOf(-1, size, 64) : upTo(size - 1);
    }

    private static int aShade() {
        return upTo(19) == 0 ? oneOf(-2, -1, 16) : upTo(15);
    }

    private static int aNumber(int most) {
        return upTo(most + 3) - 2;
    }

    private static void anyCall(int run) {
        int kind = upTo(40);
        if (kind < 10) {
            anAct(run, kind);
        } else if (kind < 20) {
            aLook(run, kind);
        } else {
            aQuestion(run, kind);
        }
    }

    private static void anAct(int run, int kind) {
        switch (kind) {
            case 0, 1 -> {
                int what = aNumber(5);
                int n = what == 4 ? aNumber(200) : aNumber(what == 5 ? 2 : what == 0 ? 3 : 15);
                same(run, "set " + what + " " + n, desk.set(what, n), model.set(what, n));
            }
            case 2 -> {
                int far = aNumber(3);
                int n = aNumber(9);
                same(run, "weight " + far + " " + n, desk.weight(far, n), model.weight(far, n));
            }
            case 3 -> {
                int t = aFrame();
                same(run, "cut " + t, desk.cut(t), model.cut(t));
            }
            case 4 -> {
                int t = aFrame();
                same(run, "skip " + t, desk.skip(t), model.skip(t));
            }
            case 5, 6 -> {
                int t = aFrame();
                int p = aPlace();
                int s = aShade();
                same(run, "dot " + t + " " + p + " " + s, desk.dot(t, p, s), model.dot(t, p, s));
            }
            case 7 -> {
                if (upTo(2) == 0) {
                    same(run, "take", desk.take(), model.take());
                }
            }
            default -> same(run, "undo", desk.undo(), model.undo());
        }
    }

    private static void aLook(int run, int kind) {
        int t = aFrame();
        int p = aPlace();
        int s = aShade();
        boolean evened = random.nextBoolean();
        switch (kind) {
            case 10, 11 -> same(run, "shade " + t + " " + p + " " + evened, deskShade(t, p, evened),
                    modelShade(t, p, evened));
            case 12, 13, 14 -> {
                int what = aNumber(4);
                same(run, "level " + t + " " + s + " " + what, desk.level(t, s, what), model.level(t, s, what));
            }
            case 15, 16 -> {
                int what = aNumber(8);
                same(run, "frame " + t + " " + what, desk.frame(t, what), model.frame(t, what));
            }
            case 17 -> {
                int u = aFrame();
                same(run, "apart " + t + " " + u + " " + evened, desk.apart(t, u, evened),
                        model.apart(t, u, evened));
            }
            case 18 -> same(run, "rank " + t + " " + p, desk.rank(t, p), model.rank(t, p));
            default -> same(run, "inverse " + t + " " + s, desk.inverse(t, s), model.inverse(t, s));
        }
    }

    private static void aQuestion(int run, int kind) {
        int t = aFrame();
        int k = aNumber(4);
        boolean evened = random.nextBoolean();
        switch (kind) {
            case 20 -> same(run, "scene " + k, desk.scene(k), model.scene(k));
            case 21, 22 -> same(run, "flicker " + evened, desk.flicker(evened), model.flicker(evened));
            case 23 -> same(run, "steady " + t, desk.steady(t), model.steady(t));
            case 24 -> same(run, "bestRadius", desk.bestRadius(), model.bestRadius());
            case 25 -> {
                int n = aNumber(desk.flicker(evened) + 1);
                same(run, "leastStep " + n, desk.leastStep(n), model.leastStep(n));
            }
            case 26, 27 -> {
                int much = aNumber(oneOf(3, 20, 60));
                same(run, "flash " + much + " " + k, desk.flash(much, k), model.flash(much, k));
            }
            case 28 -> same(run, "period", desk.period(), model.period());
            case 29 -> {
                int n = aNumber(10);
                same(run, "rounds " + n, desk.rounds(n), model.rounds(n));
            }
            case 30 -> same(run, "settles", desk.settles(), model.settles());
            case 31 -> same(run, "key " + k, desk.key(k), model.key(k));
            case 32 -> {
                int n = desk.count(2) > 14 ? aNumber(4) : aNumber(8);
                same(run, "parted " + n + " " + k, desk.parted(n, k), model.parted(n, k));
            }
            case 33, 34 -> {
                int what = aNumber(2);
                same(run, "shift " + t + " " + what, desk.shift(t, what), model.shift(t, what));
            }
            case 35 -> same(run, "alike " + t, desk.alike(t), model.alike(t));
            case 36 -> same(run, "nearest " + t, desk.nearest(t), model.nearest(t));
            case 37 -> same(run, "kinds " + evened, desk.kinds(evened), model.kinds(evened));
            case 38, 39 -> {
                int u = aFrame();
                int s = upTo(2) == 0 ? -1 : aShade();
                same(run, "fitted " + t + " " + u + " " + s, desk.fitted(t, u, s), model.fitted(t, u, s));
            }
            default -> {
                same(run, "lost " + t, desk.lost(t), model.lost(t));
                compareState(run);
            }
        }
    }

    private static int deskShade(int t, int p, boolean evened) {
        try {
            return desk.shade(t, p, evened);
        } catch (NoSuchElementException e) {
            return THROWN;
        }
    }

    private static int modelShade(int t, int p, boolean evened) {
        try {
            return model.shade(t, p, evened);
        } catch (NoSuchElementException e) {
            return THROWN;
        }
    }
}
