import java.util.ArrayDeque;
import java.util.ArrayList;
import java.util.Arrays;
import java.util.Deque;
import java.util.HashSet;
import java.util.List;
import java.util.NoSuchElementException;
import java.util.Set;
import java.util.TreeSet;

/** The document once more, as plainly and slowly as its words go: what the desk is compared with. */
final class Model {
    private static final int NONE = -1;

    /** A fault of a text; thrown where it is found. */
    private static final class Fault extends RuntimeException {
        private static final long serialVersionUID = 1L;
        final int number;
        final int place;

        Fault(int number, int place) {
            this.number = number;
            this.place = place;
        }
    }

    /** A token: kind is 'n' number, 'w' word, 'l' letter in a frame, 'e' the end, or the byte itself. */
    private record Token(int kind, String text, int place) {
    }

    int wide = 4;
    int high = 4;
    List<int[]> frames = new ArrayList<>();
    int[] settings = {1, 0, 15, 15, 0, 0};
    int[] weights = {1, 1, 1, 1};
    Set<Integer> cuts = new TreeSet<>();
    Set<Integer> skips = new TreeSet<>();
    private final Deque<Model> acts = new ArrayDeque<>();
    private final List<Integer> tape = new ArrayList<>();
    private int fault = 0;
    private int place = NONE;
    private List<Token> tokens;
    private int next;

    // ---- state

    private Model copy() {
        Model m = new Model();
        m.become(this);
        return m;
    }

    private void become(Model m) {
        wide = m.wide;
        high = m.high;
        frames = new ArrayList<>();
        for (int[] f : m.frames) {
            frames.add(f.clone());
        }
        settings = m.settings.clone();
        weights = m.weights.clone();
        cuts = new TreeSet<>(m.cuts);
        skips = new TreeSet<>(m.skips);
    }

    private void act() {
        acts.addLast(copy());
        if (acts.size() > 8) {
            acts.removeFirst();
        }
    }

    // ---- the text

    int feed(int a, int b, int c, int d, int e) {
        if (tape.size() + 20 > 900) {
            return -4;
        }
        for (int n : new int[] {a, b, c, d, e}) {
            tape.addAll(List.of(n >>> 24, n >>> 16 & 255, n >>> 8 & 255, n & 255));
        }
        return tape.size();
    }

    int tell(int n) {
        if (n < 0 || n > tape.size()) {
            return -3;
        }
        StringBuilder text = new StringBuilder();
        for (int i = 0; i < n; i++) {
            text.append((char) tape.get(i).intValue());
        }
        tape.clear();
        Model told = new Model();
        try {
            told.read(text.toString());
        } catch (Fault f) {
            fault = f.number;
            place = f.place;
            return -30 - fault;
        }
        fault = 0;
        place = NONE;
        become(told);
        acts.clear();
        return frames.size();
    }

    private static List<Token> split(String text) {
        List<Token> all = new ArrayList<>();
        boolean inFrame = false;
        int i = 0;
        while (i < text.length()) {
            char c = text.charAt(i);
            int from = i;
            i++;
            if (c == ' ') {
                continue;
            }
            if (c >= '0' && c <= '9') {
                while (i < text.length() && text.charAt(i) >= '0' && text.charAt(i) <= '9') {
                    i++;
                }
                all.add(new Token('n', text.substring(from, i), from));
            } else if (c >= 'a' && c <= 'z' && inFrame) {
                all.add(new Token('l', text.substring(from, i), from));
            } else if (c >= 'a' && c <= 'z') {
                while (i < text.length() && text.charAt(i) >= 'a' && text.charAt(i) <= 'z') {
                    i++;
                }
                String word = text.substring(from, i);
                all.add(new Token('w', word, from));
                inFrame = word.equals("frame");
            } else {
                all.add(new Token(c == ';' ? ';' : '?', text.substring(from, i), from));
                inFrame = inFrame && c != ';';
            }
        }
        all.add(new Token('e', "", text.length()));
        return all;
    }

    private void read(String text) {
        tokens = split(text);
        next = 0;
        Set<String> once = new HashSet<>();
        while (tokens.get(next).kind != 'e') {
            Token word = tokens.get(next++);
            if (word.kind != 'w') {
                throw new Fault(1, word.place);
            }
            if (word.text.equals("frame")) {
                frameLine(word);
            } else {
                otherLine(word, once);
            }
            Token semicolon = tokens.get(next++);
            if (semicolon.kind != ';') {
                throw new Fault(1, semicolon.place);
            }
        }
        if (settings[1] > settings[2]) {
            throw new Fault(6, text.length());
        }
    }

    private void frameLine(Token word) {
        if (frames.size() == 24) {
            throw new Fault(5, word.place);
        }
        List<Integer> dots = new ArrayList<>();
        boolean any = false;
        while (!any || tokens.get(next).kind != ';') {
            any = true;
            Token letter = tokens.get(next++);
            if (letter.kind != 'l' || letter.text.charAt(0) > 'p') {
                throw new Fault(1, letter.place);
            }
            int many = tokens.get(next).kind == 'n' ? numberIn(1, 64) : 1;
            if (dots.size() + many > wide * high) {
                throw new Fault(3, letter.place);
            }
            for (int i = 0; i < many; i++) {
                dots.add(letter.text.charAt(0) - 'a');
            }
        }
        if (dots.size() < wide * high) {
            throw new Fault(4, tokens.get(next).place);
        }
        frames.add(dots.stream().mapToInt(Integer::intValue).toArray());
    }

    private int numberIn(int least, int most) {
        Token t = tokens.get(next++);
        if (t.kind != 'n') {
            throw new Fault(1, t.place);
        }
        if (t.text.length() > 3 || Integer.parseInt(t.text) < least || Integer.parseInt(t.text) > most) {
            throw new Fault(2, t.place);
        }
        return Integer.parseInt(t.text);
    }

    private void onceMore(Set<String> once, String what, int at) {
        if (!once.add(what)) {
            throw new Fault(1, at);
        }
    }

    private void otherLine(Token word, Set<String> once) {
        List<String> plain = List.of("radius", "black", "white", "step", "border");
        int[] most = {3, 15, 15, 15, 999};
        if (plain.contains(word.text)) {
            onceMore(once, word.text, word.place);
            int what = plain.indexOf(word.text);
            settings[what] = numberIn(0, most[what]);
        } else if (word.text.equals("size")) {
            if (!frames.isEmpty()) {
                throw new Fault(1, word.place);
            }
            onceMore(once, "size", word.place);
            wide = numberIn(1, 8);
            high = numberIn(1, 8);
        } else if (word.text.equals("weight")) {
            int at = tokens.get(next).place;
            int far = numberIn(0, 3);
            onceMore(once, "weight " + far, at);
            weights[far] = numberIn(1, 9);
        } else if (word.text.equals("spread") || word.text.equals("keyed")) {
            onceMore(once, "mode", word.place);
            settings[5] = word.text.equals("spread") ? 1 : 2;
        } else if (word.text.equals("cut") || word.text.equals("skip")) {
            boolean isCut = word.text.equals("cut");
            int at = tokens.get(next).place;
            int t = numberIn(isCut ? 1 : 0, frames.size() - 1);
            onceMore(once, word.text + " " + t, at);
            (isCut ? cuts : skips).add(t);
        } else {
            throw new Fault(1, word.place);
        }
    }

    int fault(int what) {
        return what == 0 ? fault : what == 1 ? place : NONE;
    }

    // ---- by hand

    int set(int what, int n) {
        int[] most = {3, 15, 15, 15, 999, 2};
        if (what < 0 || what > 5) {
            return -2;
        }
        if (n < 0 || n > most[what] || what == 1 && n > settings[2] || what == 2 && n < settings[1]) {
            return -3;
        }
        act();
        int was = settings[what];
        settings[what] = n;
        return was;
    }

    int weight(int far, int n) {
        if (far < 0 || far > 3) {
            return -2;
        }
        if (n < 1 || n > 9) {
            return -3;
        }
        act();
        int was = weights[far];
        weights[far] = n;
        return was;
    }

    private boolean isFrame(int t) {
        return t >= 0 && t < frames.size();
    }

    private boolean isPlace(int p) {
        return p >= 0 && p < wide * high;
    }

    private boolean isShade(int s) {
        return s >= 0 && s <= 15;
    }

    int cut(int t) {
        if (!isFrame(t) || t == 0) {
            return -2;
        }
        act();
        if (!cuts.remove(t)) {
            cuts.add(t);
        }
        return scenes().size();
    }

    int skip(int t) {
        if (!isFrame(t)) {
            return -2;
        }
        act();
        if (!skips.remove(t)) {
            skips.add(t);
        }
        return skips.size();
    }

    int dot(int t, int p, int s) {
        if (!isFrame(t) || !isPlace(p)) {
            return -2;
        }
        if (!isShade(s)) {
            return -3;
        }
        act();
        int was = frames.get(t)[p];
        frames.get(t)[p] = s;
        return was;
    }

    int take() {
        act();
        List<int[]> then = evened();
        int changed = 0;
        for (int t = 0; t < frames.size(); t++) {
            changed += differing(frames.get(t), then.get(t));
        }
        frames = then;
        return changed;
    }

    private static int differing(int[] one, int[] other) {
        int many = 0;
        for (int p = 0; p < one.length; p++) {
            many += one[p] != other[p] ? 1 : 0;
        }
        return many;
    }

    int undo() {
        if (acts.isEmpty()) {
            return -5;
        }
        become(acts.removeLast());
        return acts.size();
    }

    // ---- counts, scenes, targets, tables

    private static int count(int[] dots, int s) {
        int many = 0;
        for (int d : dots) {
            many += d == s ? 1 : 0;
        }
        return many;
    }

    private static int cum(int[] dots, int s) {
        int many = 0;
        for (int d : dots) {
            many += d <= s ? 1 : 0;
        }
        return many;
    }

    private static int mean(int[] dots) {
        return Arrays.stream(dots).sum();
    }

    private static int apart(int[] one, int[] other) {
        int sum = 0;
        for (int s = 0; s < 16; s++) {
            sum += Math.abs(cum(one, s) - cum(other, s));
        }
        return sum;
    }

    private boolean begins(int t) {
        return t == 0 || cuts.contains(t)
                || settings[4] > 0 && apart(frames.get(t), frames.get(t - 1)) > settings[4];
    }

    /** The frames of each scene. */
    private List<List<Integer>> scenes() {
        List<List<Integer>> all = new ArrayList<>();
        for (int t = 0; t < frames.size(); t++) {
            if (begins(t)) {
                all.add(new ArrayList<>());
            }
            all.get(all.size() - 1).add(t);
        }
        return all;
    }

    private List<Integer> sceneOf(int t) {
        return scenes().stream().filter(s -> s.contains(t)).findFirst().orElseThrow();
    }

    private List<Integer> window(int t) {
        List<Integer> all = new ArrayList<>();
        for (int u : sceneOf(t)) {
            if (Math.abs(u - t) <= settings[0] && !skips.contains(u)) {
                all.add(u);
            }
        }
        return all.isEmpty() ? List.of(t) : all;
    }

    private int keyOf(List<Integer> scene) {
        int best = NONE;
        int least = Integer.MAX_VALUE;
        for (int t : scene) {
            int sum = 0;
            for (int u : scene) {
                sum += apart(frames.get(t), frames.get(u));
            }
            if (sum < least) {
                least = sum;
                best = t;
            }
        }
        return best;
    }

    private int[] targets(int t) {
        int[] row = new int[16];
        int key = settings[5] == 2 ? keyOf(sceneOf(t)) : NONE;
        List<Integer> window = window(t);
        for (int s = 0; s < 16; s++) {
            if (key != NONE) {
                row[s] = cum(frames.get(key), s);
                continue;
            }
            int above = 0;
            int below = 0;
            for (int u : window) {
                above += cum(frames.get(u), s) * weights[Math.abs(u - t)];
                below += weights[Math.abs(u - t)];
            }
            row[s] = Math.floorDiv(above, below);
        }
        return row;
    }

    private int bounded(int s, int v) {
        int to = v;
        if (to < settings[1]) {
            to = settings[1];
        }
        if (to > settings[2]) {
            to = settings[2];
        }
        if (to < s - settings[3]) {
            to = s - settings[3];
        }
        if (to > s + settings[3]) {
            to = s + settings[3];
        }
        return to;
    }

    private int[] table(int t) {
        int[] targets = targets(t);
        int[] row = new int[16];
        for (int s = 0; s < 16; s++) {
            row[s] = s;
            if (s > settings[1] && s < settings[2]) {
                int v = 0;
                while (targets[v] < cum(frames.get(t), s)) {
                    v++;
                }
                row[s] = bounded(s, v);
            }
        }
        return row;
    }

    private int around(int[] dots, int p) {
        int sum = 0;
        for (int q = 0; q < dots.length; q++) {
            int dx = Math.abs(q % wide - p % wide);
            int dy = Math.abs(q / wide - p / wide);
            sum += q != p && dx <= 1 && dy <= 1 ? dots[q] : 0;
        }
        return sum;
    }

    private int[] ranks(int t) {
        int[] dots = frames.get(t);
        int[] around = new int[dots.length];
        for (int p = 0; p < dots.length; p++) {
            around[p] = around(dots, p);
        }
        int[] ranks = new int[dots.length];
        for (int p = 0; p < dots.length; p++) {
            for (int q = 0; q < dots.length; q++) {
                boolean ahead = dots[q] != dots[p] ? dots[q] < dots[p]
                        : around[q] != around[p] ? around[q] < around[p] : q < p;
                ranks[p] += ahead ? 1 : 0;
            }
        }
        return ranks;
    }

    private int[] evenedFrame(int t) {
        int[] dots = frames.get(t).clone();
        int[] table = table(t);
        int[] targets = targets(t);
        int[] ranks = settings[5] == 1 ? ranks(t) : null;
        for (int p = 0; p < dots.length; p++) {
            int s = dots[p];
            if (ranks == null) {
                dots[p] = table[s];
            } else if (s > settings[1] && s < settings[2]) {
                int v = 0;
                while (targets[v] <= ranks[p]) {
                    v++;
                }
                dots[p] = bounded(s, v);
            }
        }
        return dots;
    }

    private List<int[]> evened() {
        List<int[]> all = new ArrayList<>();
        for (int t = 0; t < frames.size(); t++) {
            all.add(evenedFrame(t));
        }
        return all;
    }

    // ---- frames

    int shade(int t, int p, boolean evened) {
        if (!isFrame(t) || !isPlace(p)) {
            throw new NoSuchElementException();
        }
        return evened ? evenedFrame(t)[p] : frames.get(t)[p];
    }

    int level(int t, int s, int what) {
        if (!isFrame(t) || what < 0 || what > 4) {
            return -2;
        }
        if (!isShade(s)) {
            return -3;
        }
        return switch (what) {
            case 0 -> count(frames.get(t), s);
            case 1 -> cum(frames.get(t), s);
            case 2 -> targets(t)[s];
            case 3 -> table(t)[s];
            default -> count(evenedFrame(t), s);
        };
    }

    private static int shades(int[] dots) {
        return (int) Arrays.stream(dots).distinct().count();
    }

    int frame(int t, int what) {
        if (!isFrame(t) || what < 0 || what > 8) {
            return -2;
        }
        return switch (what) {
            case 0 -> mean(frames.get(t));
            case 1 -> scenes().indexOf(sceneOf(t));
            case 2 -> skips.contains(t) ? 1 : 0;
            case 3 -> begins(t) ? 1 : 0;
            case 4 -> window(t).size();
            case 5 -> shades(frames.get(t));
            case 6 -> shades(evenedFrame(t));
            case 7 -> mean(evenedFrame(t));
            default -> differing(frames.get(t), evenedFrame(t));
        };
    }

    int apart(int one, int other, boolean evened) {
        if (!isFrame(one) || !isFrame(other)) {
            return -2;
        }
        List<int[]> all = evened ? evened() : frames;
        return apart(all.get(one), all.get(other));
    }

    int scene(int k) {
        if (k < NONE) {
            return -3;
        }
        List<List<Integer>> all = scenes();
        return k == NONE ? all.size() : k < all.size() ? all.get(k).get(0) : NONE;
    }

    int rank(int t, int p) {
        return isFrame(t) && isPlace(p) ? ranks(t)[p] : -2;
    }

    int inverse(int t, int shade) {
        if (!isFrame(t)) {
            return -2;
        }
        if (!isShade(shade)) {
            return -3;
        }
        int[] table = table(t);
        for (int s = 0; s < 16; s++) {
            if (table[s] >= shade) {
                return s;
            }
        }
        return NONE;
    }

    // ---- flicker

    int flicker(boolean evened) {
        List<int[]> all = evened ? evened() : frames;
        int sum = 0;
        for (int t = 0; t < all.size(); t++) {
            sum += begins(t) ? 0 : apart(all.get(t - 1), all.get(t));
        }
        return sum;
    }

    int steady(int t) {
        return !isFrame(t) ? -2 : Arrays.equals(frames.get(t), evenedFrame(t)) ? 1 : 0;
    }

    int bestRadius() {
        Model m = copy();
        int best = 0;
        int least = Integer.MAX_VALUE;
        for (int r = 0; r <= 3; r++) {
            m.settings[0] = r;
            if (m.flicker(true) < least) {
                least = m.flicker(true);
                best = r;
            }
        }
        return best;
    }

    int leastStep(int most) {
        if (most < 0) {
            return -3;
        }
        Model m = copy();
        for (int step = 0; step <= 15; step++) {
            m.settings[3] = step;
            if (m.flicker(true) <= most) {
                return step;
            }
        }
        return NONE;
    }

    int flash(int much, int k) {
        if (much < 0 || k < NONE) {
            return -3;
        }
        List<Integer> found = new ArrayList<>();
        for (int t = 0; t < frames.size() - 1; t++) {
            if (begins(t) || begins(t + 1)) {
                continue;
            }
            int a = mean(frames.get(t - 1));
            int b = mean(frames.get(t));
            int c = mean(frames.get(t + 1));
            if (Math.abs(a - b) > much && Math.abs(b - c) > much && !(Math.abs(a - c) > much)) {
                found.add(t);
            }
        }
        return k == NONE ? found.size() : k < found.size() ? found.get(k) : NONE;
    }

    int period() {
        int best = NONE;
        double least = Double.MAX_VALUE;
        for (int p = 1; p <= 8 && p < frames.size(); p++) {
            double sum = 0;
            for (int t = 0; t + p < frames.size(); t++) {
                sum += Math.abs(mean(frames.get(t)) - mean(frames.get(t + p)));
            }
            double apart = sum / (frames.size() - p);
            // Unlike fractions with such small denominators are further apart than this.
            if (apart < least - 1e-6) {
                least = apart;
                best = p;
            }
        }
        return best;
    }

    int rounds(int n) {
        if (n < 0 || n > 10) {
            return -3;
        }
        Model m = copy();
        for (int i = 0; i < n; i++) {
            m.take();
        }
        return m.flicker(false);
    }

    int settles() {
        Model m = copy();
        int times = 0;
        while (m.take() > 0) {
            times++;
            if (times > 20) {
                return NONE;
            }
        }
        return times;
    }

    int key(int k) {
        return k >= 0 && k < scenes().size() ? keyOf(scenes().get(k)) : -2;
    }

    /** All rows of beginnings, one after another in their order; the first of the cheapest stays. */
    int parted(int n, int k) {
        if (n < 1 || n > 8 || k < NONE) {
            return -3;
        }
        if (frames.size() < n || k >= n) {
            return NONE;
        }
        int many = frames.size();
        int[][] costs = new int[many][many + 1];
        for (int from = 0; from < many; from++) {
            for (int to = from + 1; to <= many; to++) {
                costs[from][to] = rowCost(from, to);
            }
        }
        int[] starts = new int[n];
        int[] best = new int[n];
        int least = partFrom(costs, starts, 1, 0, Integer.MAX_VALUE, best);
        return k == NONE ? least : best[k];
    }

    private int rowCost(int from, int to) {
        int least = Integer.MAX_VALUE;
        for (int t = from; t < to; t++) {
            int sum = 0;
            for (int u = from; u < to; u++) {
                sum += apart(frames.get(t), frames.get(u));
            }
            least = Math.min(least, sum);
        }
        return least;
    }

    private int partFrom(int[][] costs, int[] starts, int row, int spent, int least, int[] best) {
        int many = frames.size();
        if (row == starts.length) {
            int all = spent + costs[starts[row - 1]][many];
            if (all < least) {
                System.arraycopy(starts, 0, best, 0, row);
                return all;
            }
            return least;
        }
        int now = least;
        for (int s = starts[row - 1] + 1; s < many; s++) {
            starts[row] = s;
            now = partFrom(costs, starts, row + 1, spent + costs[starts[row - 1]][s], now, best);
        }
        return now;
    }

    int shift(int t, int what) {
        if (!isFrame(t) || what < 0 || what > 2) {
            return -2;
        }
        if (!isFrame(t + 1)) {
            return NONE;
        }
        List<int[]> all = new ArrayList<>();
        for (int x = -2; x <= 2; x++) {
            for (int y = -2; y <= 2; y++) {
                all.add(new int[] {x, y, sameMoved(t, x, y)});
            }
        }
        all.sort((a, b) -> a[2] != b[2] ? b[2] - a[2]
                : Math.abs(a[0]) + Math.abs(a[1]) != Math.abs(b[0]) + Math.abs(b[1])
                ? Math.abs(a[0]) + Math.abs(a[1]) - Math.abs(b[0]) - Math.abs(b[1])
                : a[0] != b[0] ? a[0] - b[0] : a[1] - b[1]);
        return what == 2 ? all.get(0)[2] : all.get(0)[what] + 2;
    }

    private int sameMoved(int t, int x, int y) {
        int same = 0;
        for (int p = 0; p < wide * high; p++) {
            int toX = p % wide + x;
            int toY = p / wide + y;
            if (toX >= 0 && toX < wide && toY >= 0 && toY < high) {
                same += frames.get(t)[p] == frames.get(t + 1)[toY * wide + toX] ? 1 : 0;
            }
        }
        return same;
    }

    // ---- alike

    int alike(int t) {
        if (t == NONE) {
            return (int) frames.stream().map(Arrays::toString).distinct().count();
        }
        if (!isFrame(t)) {
            return -2;
        }
        return frames.stream().map(Arrays::toString).toList().indexOf(Arrays.toString(frames.get(t)));
    }

    int nearest(int t) {
        if (!isFrame(t)) {
            return -2;
        }
        int best = NONE;
        for (int u = 0; u < frames.size(); u++) {
            if (u != t && (best == NONE
                    || apart(frames.get(u), frames.get(t)) < apart(frames.get(best), frames.get(t)))) {
                best = u;
            }
        }
        return best;
    }

    int kinds(boolean evened) {
        Set<String> rows = new HashSet<>();
        for (int[] dots : evened ? evened() : frames) {
            int[] sorted = dots.clone();
            Arrays.sort(sorted);
            rows.add(Arrays.toString(sorted));
        }
        return rows.size();
    }

    // ---- fitted

    int fitted(int from, int to, int shade) {
        if (!isFrame(from) || !isFrame(to)) {
            return -2;
        }
        if (shade < NONE || shade > 15) {
            return -3;
        }
        int[][] costs = new int[16][16];
        for (int p = 0; p < wide * high; p++) {
            for (int v = 0; v < 16; v++) {
                costs[frames.get(from)[p]][v] += Math.abs(v - frames.get(to)[p]);
            }
        }
        int[] table = shades(frames.get(from)) <= 4
                ? fitByAll(costs, frames.get(from)) : fitByPrefixes(costs);
        if (shade != NONE) {
            return table[shade];
        }
        int sum = 0;
        for (int s = 0; s < 16; s++) {
            sum += costs[s][table[s]];
        }
        return sum;
    }

    /** Tries every row for the shades that there are; a shade that is not there stays as low as it may. */
    private int[] fitByAll(int[][] costs, int[] dots) {
        int[] there = Arrays.stream(dots).distinct().sorted().toArray();
        int[] now = new int[there.length];
        int[] best = new int[there.length];
        tryAll(costs, there, now, 0, 0, Integer.MAX_VALUE, best);
        int[] table = new int[16];
        int v = 0;
        for (int s = 0; s < 16; s++) {
            int i = Arrays.binarySearch(there, s);
            v = i >= 0 ? best[i] : v;
            table[s] = v;
        }
        return table;
    }

    private int tryAll(int[][] costs, int[] there, int[] now, int i, int spent, int least, int[] best) {
        if (i == there.length) {
            if (spent < least) {
                System.arraycopy(now, 0, best, 0, i);
                return spent;
            }
            return least;
        }
        int found = least;
        for (int v = i == 0 ? 0 : now[i - 1]; v < 16; v++) {
            now[i] = v;
            found = tryAll(costs, there, now, i + 1, spent + costs[there[i]][v], found, best);
        }
        return found;
    }

    /** Keeps, for each shade to which the latest may come, the first of the cheapest rows so far. */
    private int[] fitByPrefixes(int[][] costs) {
        List<int[]> rows = new ArrayList<>();
        rows.add(new int[17]);
        for (int s = 0; s < 16; s++) {
            List<int[]> longer = new ArrayList<>();
            for (int v = 0; v < 16; v++) {
                int[] best = null;
                for (int[] row : rows) {
                    if (s > 0 && row[s - 1] > v) {
                        continue;
                    }
                    int[] candidate = row.clone();
                    candidate[s] = v;
                    candidate[16] += costs[s][v];
                    best = best == null || isBetter(candidate, best) ? candidate : best;
                }
                longer.add(best);
            }
            rows = longer;
        }
        int[] best = rows.get(0);
        for (int[] row : rows) {
            best = isBetter(row, best) ? row : best;
        }
        return best;
    }

    private static boolean isBetter(int[] one, int[] other) {
        return one[16] != other[16] ? one[16] < other[16] : Arrays.compare(one, 0, 16, other, 0, 16) < 0;
    }

    int lost(int t) {
        if (!isFrame(t)) {
            return -2;
        }
        int[] table = table(t);
        int many = 0;
        int[] there = Arrays.stream(frames.get(t)).distinct().toArray();
        for (int s : there) {
            many += Arrays.stream(there).anyMatch(o -> o != s && table[o] == table[s]) ? 1 : 0;
        }
        return many;
    }

    int setting(int what) {
        return what >= 0 && what < 6 ? settings[what] : -2;
    }

    int count(int what) {
        int[] firsts = {wide, high, frames.size(), skips.size(), cuts.size(), acts.size(), tape.size()};
        if (what >= 0 && what < firsts.length) {
            return firsts[what];
        }
        return what >= 10 && what <= 13 ? weights[what - 10] : NONE;
    }
}
