import java.util.Arrays;
import java.util.NoSuchElementException;

/** A film that flickers, evened. What each call promises stands in the document DOC.md. */
public final class FlickerDesk {
    /** There is none. */
    public static final int NONE = -1;

    private static final int NO_SUCH = -2;
    private static final int BAD_NUMBER = -3;
    private static final int TOO_MANY = -4;
    private static final int NOTHING_TO_UNDO = -5;
    private static final int FAULTY = -30;

    private static final int MOST_FRAMES = 24;
    private static final int MOST_DOTS = 64;
    private static final int SHADES = 16;
    private static final int LAST_SHADE = 15;
    private static final int MOST_BYTES = 900;
    private static final int FEED_BYTES = 20;
    private static final int MOST_ACTS = 8;
    private static final int MOST_PARTS = 8;
    private static final int MOST_ROUNDS = 10;
    private static final int MOST_SETTLING = 20;
    private static final int LONGEST_PERIOD = 8;
    private static final int FARTHEST_SHIFT = 2;
    private static final int DISTANCES = 4;
    private static final int MOST_WEIGHT = 9;
    private static final int FIRST_WEIGHT_COUNT = 10;
    /** Above every sum that a film of 24 frames can give. */
    private static final int ENDLESS = 1000000;

    private static final int RADIUS = 0;
    private static final int BLACK = 1;
    private static final int WHITE = 2;
    private static final int STEP = 3;
    private static final int BORDER = 4;
    private static final int MODE = 5;
    private static final int SETTINGS = 6;
    private static final int BY_SPREAD = 1;
    private static final int BY_KEY = 2;
    private static final int[] USUAL_SETTINGS = {1, 0, 15, 15, 0, 0};
    private static final int[] HIGHEST_SETTINGS = {3, 15, 15, 15, 999, 2};

    /** The size line is told once, as settings are: it stands behind them in the row of what was told. */
    private static final int SIZE_TOLD = 6;
    private static final Word[] WORDS = Word.values();

    private final Film film = new Film();
    private final Evening evening = new Evening();
    private final Reader reader = new Reader();
    private final Acts acts = new Acts();
    private final Film trial = new Film();
    private final Evening trialEvening = new Evening();
    private final Parting parting = new Parting();
    private final Fit fit = new Fit();
    private final Move move = new Move();

    public FlickerDesk() {
    }

    // ---- the text

    public int feed(int a, int b, int c, int d, int e) {
        if (reader.length + FEED_BYTES > MOST_BYTES) {
            return TOO_MANY;
        }
        reader.putFour(a);
        reader.putFour(b);
        reader.putFour(c);
        reader.putFour(d);
        reader.putFour(e);
        return reader.length;
    }

    public int tell(int n) {
        if (n < 0 || n > reader.length) {
            return BAD_NUMBER;
        }
        reader.readText(n);
        if (reader.fault != 0) {
            return FAULTY - reader.fault;
        }
        film.copyFrom(reader.film);
        acts.many = 0;
        forgetDerived();
        return film.frames;
    }

    public int fault(int what) {
        switch (what) {
            case 0:
                return reader.fault;
            case 1:
                return reader.place;
            default:
                return NONE;
        }
    }

    // ---- by hand

    public int set(int what, int n) {
        if (!isSetting(what)) {
            return NO_SUCH;
        }
        if (!film.allows(what, n)) {
            return BAD_NUMBER;
        }
        int was = film.settings[what];
        beginAct();
        film.settings[what] = n;
        return was;
    }

    public int weight(int far, int n) {
        if (far < 0 || far >= DISTANCES) {
            return NO_SUCH;
        }
        if (n < 1 || n > MOST_WEIGHT) {
            return BAD_NUMBER;
        }
        int was = film.weights[far];
        beginAct();
        film.weights[far] = n;
        return was;
    }

    public int cut(int frame) {
        if (frame == 0 || !film.hasFrame(frame)) {
            return NO_SUCH;
        }
        beginAct();
        film.cuts[frame] = 1 - film.cuts[frame];
        return looked().scenes.many;
    }

    public int skip(int frame) {
        if (!film.hasFrame(frame)) {
            return NO_SUCH;
        }
        beginAct();
        film.skips[frame] = 1 - film.skips[frame];
        return film.marked(film.skips);
    }

    public int dot(int frame, int place, int shade) {
        if (!film.hasFrame(frame) || !film.hasPlace(place)) {
            return NO_SUCH;
        }
        if (!isShade(shade)) {
            return BAD_NUMBER;
        }
        int was = film.dots[frame * MOST_DOTS + place];
        beginAct();
        film.dots[frame * MOST_DOTS + place] = shade;
        return was;
    }

    public int take() {
        Evening now = evened();
        int changed = now.changedDots(film);
        // The evened dots outlive beginAct(): it only marks them as out of date.
        beginAct();
        film.copyDots(now.dots);
        return changed;
    }

    public int undo() {
        if (acts.many == 0) {
            return NOTHING_TO_UNDO;
        }
        acts.bringBack(film);
        forgetDerived();
        return acts.many;
    }

    // ---- frames

    public int shade(int frame, int place, boolean evened) throws NoSuchElementException {
        if (!film.hasFrame(frame) || !film.hasPlace(place)) {
            throw new NoSuchElementException("there is no such dot");
        }
        int[] dots = evened ? evened().dots : film.dots;
        return dots[frame * MOST_DOTS + place];
    }

    public int level(int frame, int shade, int what) {
        if (!film.hasFrame(frame) || what < 0 || what > 4) {
            return NO_SUCH;
        }
        if (!isShade(shade)) {
            return BAD_NUMBER;
        }
        switch (what) {
            case 0:
                return looked().ahead.number(frame, shade);
            case 1:
                return looked().ahead.cums[frame * SHADES + shade];
            case 2:
                return evened().targets[frame * SHADES + shade];
            case 3:
                return evened().tables[frame * SHADES + shade];
            default:
                return evened().then.number(frame, shade);
        }
    }

    public int frame(int frame, int what) {
        if (!film.hasFrame(frame)) {
            return NO_SUCH;
        }
        switch (what) {
            case 0:
                return looked().ahead.mean(frame);
            case 1:
                return looked().scenes.sceneOf[frame];
            case 2:
                return film.skips[frame];
            case 3:
                return looked().scenes.begins(frame) ? 1 : 0;
            case 4:
                return looked().windowSize(film, frame);
            case 5:
                return looked().ahead.shades(frame);
            case 6:
                return evened().then.shades(frame);
            case 7:
                return evened().then.mean(frame);
            case 8:
                return evened().changedIn(film, frame);
            default:
                return NO_SUCH;
        }
    }

    public int apart(int one, int other, boolean evened) {
        if (!film.hasFrame(one) || !film.hasFrame(other)) {
            return NO_SUCH;
        }
        return tally(evened).gap(one, other);
    }

    public int scene(int k) {
        if (k < NONE) {
            return BAD_NUMBER;
        }
        Scenes scenes = looked().scenes;
        if (k == NONE) {
            return scenes.many;
        }
        return k < scenes.many ? scenes.firstOf[k] : NONE;
    }

    public int rank(int frame, int place) {
        if (!film.hasFrame(frame) || !film.hasPlace(place)) {
            return NO_SUCH;
        }
        Evening now = looked();
        now.ranks.read(film, frame, now.ahead);
        return now.ranks.find(place);
    }

    public int inverse(int frame, int shade) {
        if (!film.hasFrame(frame)) {
            return NO_SUCH;
        }
        if (!isShade(shade)) {
            return BAD_NUMBER;
        }
        int[] tables = evened().tables;
        for (int s = 0; s < SHADES; s++) {
            if (tables[frame * SHADES + s] >= shade) {
                return s;
            }
        }
        return NONE;
    }

    // ---- flicker

    public int flicker(boolean evened) {
        return evening.flickerOf(tally(evened), film.frames);
    }

    public int steady(int frame) {
        if (!film.hasFrame(frame)) {
            return NO_SUCH;
        }
        return evened().changedIn(film, frame) == 0 ? 1 : 0;
    }

    public int bestRadius() {
        beginTrial();
        int best = 0;
        int least = ENDLESS;
        for (int radius = 0; radius <= HIGHEST_SETTINGS[RADIUS]; radius++) {
            int flicker = trialFlicker(RADIUS, radius);
            if (flicker < least) {
                least = flicker;
                best = radius;
            }
        }
        return best;
    }

    public int leastStep(int flicker) {
        if (flicker < 0) {
            return BAD_NUMBER;
        }
        beginTrial();
        for (int step = 0; step <= HIGHEST_SETTINGS[STEP]; step++) {
            if (trialFlicker(STEP, step) <= flicker) {
                return step;
            }
        }
        return NONE;
    }

    public int flash(int much, int k) {
        if (much < 0 || k < NONE) {
            return BAD_NUMBER;
        }
        Evening now = looked();
        int found = 0;
        for (int t = 1; t + 1 < film.frames; t++) {
            if (now.flashes(t, much)) {
                if (found == k) {
                    return t;
                }
                found++;
            }
        }
        return k == NONE ? found : NONE;
    }

    public int period() {
        Tally tally = looked().ahead;
        int best = NONE;
        int leastSum = 0;
        int couplesOfLeast = 1;
        for (int p = 1; p <= LONGEST_PERIOD && p < film.frames; p++) {
            int sum = 0;
            int couples = film.frames - p;
            for (int t = 0; t < couples; t++) {
                sum += Math.abs(tally.mean(t) - tally.mean(t + p));
            }
            // Means are compared as fractions, so that none is rounded.
            if (best == NONE || sum * couplesOfLeast < leastSum * couples) {
                best = p;
                leastSum = sum;
                couplesOfLeast = couples;
            }
        }
        return best;
    }

    public int rounds(int n) {
        if (n < 0 || n > MOST_ROUNDS) {
            return BAD_NUMBER;
        }
        beginTrial();
        for (int done = 0; done < n; done++) {
            if (takeInTrial() == 0) {
                break;
            }
        }
        trialEvening.look(trial);
        return trialEvening.flickerOf(trialEvening.ahead, trial.frames);
    }

    public int settles() {
        beginTrial();
        for (int done = 0; done <= MOST_SETTLING; done++) {
            if (takeInTrial() == 0) {
                return done;
            }
        }
        return NONE;
    }

    public int key(int scene) {
        Evening now = looked();
        if (scene < 0 || scene >= now.scenes.many) {
            return NO_SUCH;
        }
        return now.scenes.keyFrame(scene, now.ahead);
    }

    public int parted(int n, int k) {
        if (n < 1 || n > MOST_PARTS || k < NONE) {
            return BAD_NUMBER;
        }
        if (film.frames < n || k >= n) {
            return NONE;
        }
        parting.work(looked().ahead, film.frames);
        return k == NONE ? parting.least(n, 0) : parting.start(n, k);
    }

    public int shift(int frame, int what) {
        if (!film.hasFrame(frame) || what < 0 || what > 2) {
            return NO_SUCH;
        }
        if (frame + 1 >= film.frames) {
            return NONE;
        }
        move.work(film, frame);
        switch (what) {
            case 0:
                return move.right + FARTHEST_SHIFT;
            case 1:
                return move.down + FARTHEST_SHIFT;
            default:
                return move.dots;
        }
    }

    // ---- alike

    public int alike(int frame) {
        if (frame == NONE) {
            int unlike = 0;
            for (int t = 0; t < film.frames; t++) {
                unlike += film.firstLike(t) == t ? 1 : 0;
            }
            return unlike;
        }
        return film.hasFrame(frame) ? film.firstLike(frame) : NO_SUCH;
    }

    public int nearest(int frame) {
        if (!film.hasFrame(frame)) {
            return NO_SUCH;
        }
        Tally tally = looked().ahead;
        int best = NONE;
        int least = ENDLESS;
        for (int t = 0; t < film.frames; t++) {
            int gap = tally.gap(t, frame);
            if (t != frame && gap < least) {
                best = t;
                least = gap;
            }
        }
        return best;
    }

    public int kinds(boolean evened) {
        Tally tally = tally(evened);
        int unlike = 0;
        for (int t = 0; t < film.frames; t++) {
            unlike += tally.isNew(t) ? 1 : 0;
        }
        return unlike;
    }

    // ---- fitted

    public int fitted(int from, int to, int shade) {
        if (!film.hasFrame(from) || !film.hasFrame(to)) {
            return NO_SUCH;
        }
        if (shade != NONE && !isShade(shade)) {
            return BAD_NUMBER;
        }
        fit.work(film, from, to);
        return shade == NONE ? fit.least[0] : fit.comesTo(shade);
    }

    public int lost(int frame) {
        if (!film.hasFrame(frame)) {
            return NO_SUCH;
        }
        Evening now = evened();
        int many = 0;
        for (int s = 0; s < SHADES; s++) {
            many += now.meetsAnother(frame, s) ? 1 : 0;
        }
        return many;
    }

    public int setting(int what) {
        return isSetting(what) ? film.settings[what] : NO_SUCH;
    }

    public int count(int what) {
        switch (what) {
            case 0:
                return film.wide;
            case 1:
                return film.high;
            case 2:
                return film.frames;
            case 3:
                return film.marked(film.skips);
            case 4:
                return film.marked(film.cuts);
            case 5:
                return acts.many;
            case 6:
                return reader.length;
            default:
                return weightCount(what);
        }
    }

    // ---- what the calls share

    private int weightCount(int what) {
        if (what < FIRST_WEIGHT_COUNT || what >= FIRST_WEIGHT_COUNT + DISTANCES) {
            return NONE;
        }
        return film.weights[what - FIRST_WEIGHT_COUNT];
    }

    private static boolean isShade(int shade) {
        return shade >= 0 && shade < SHADES;
    }

    private static boolean isSetting(int what) {
        return what >= 0 && what < SETTINGS;
    }

    private void beginAct() {
        acts.keep(film);
        forgetDerived();
    }

    private void forgetDerived() {
        evening.forget();
        parting.ready = false;
    }

    /** Counts and scenes of the film are up to date. */
    private Evening looked() {
        evening.look(film);
        return evening;
    }

    /** Counts, scenes, targets, tables and evened dots of the film are up to date. */
    private Evening evened() {
        evening.even(film);
        return evening;
    }

    private Tally tally(boolean evened) {
        return evened ? evened().then : looked().ahead;
    }

    private void beginTrial() {
        trial.copyFrom(film);
        trialEvening.forget();
    }

    /** Scenes hang on neither the radius nor the step, so that the counts stay. */
    private int trialFlicker(int what, int n) {
        trial.settings[what] = n;
        trialEvening.forgetEvened();
        trialEvening.even(trial);
        return trialEvening.flickerOf(trialEvening.then, trial.frames);
    }

    private int takeInTrial() {
        trialEvening.even(trial);
        int changed = trialEvening.changedDots(trial);
        trial.copyDots(trialEvening.dots);
        trialEvening.forget();
        return changed;
    }

    /** The words with which lines begin; those that are told once have a place in the row of what was told. */
    private enum Word {
        SIZE("size", SIZE_TOLD),
        FRAME("frame", NONE),
        RADIUS_LINE("radius", RADIUS),
        WEIGHT("weight", NONE),
        BLACK_LINE("black", BLACK),
        WHITE_LINE("white", WHITE),
        STEP_LINE("step", STEP),
        BORDER_LINE("border", BORDER),
        SPREAD("spread", MODE),
        KEYED("keyed", MODE),
        CUT("cut", NONE),
        SKIP("skip", NONE);

        final String text;
        final int once;

        Word(String text, int once) {
            this.text = text;
            this.once = once;
        }
    }

    /** All that a text tells and hands change. */
    private static final class Film {
        final int[] dots = new int[MOST_FRAMES * MOST_DOTS];
        final int[] cuts = new int[MOST_FRAMES];
        final int[] skips = new int[MOST_FRAMES];
        final int[] settings = new int[SETTINGS];
        final int[] weights = new int[DISTANCES];
        int wide;
        int high;
        int frames;

        Film() {
            clear();
        }

        void clear() {
            wide = 4;
            high = 4;
            frames = 0;
            Arrays.fill(cuts, 0);
            Arrays.fill(skips, 0);
            Arrays.fill(weights, 1);
            System.arraycopy(USUAL_SETTINGS, 0, settings, 0, SETTINGS);
        }

        void copyFrom(Film other) {
            wide = other.wide;
            high = other.high;
            frames = other.frames;
            copyDots(other.dots);
            System.arraycopy(other.cuts, 0, cuts, 0, MOST_FRAMES);
            System.arraycopy(other.skips, 0, skips, 0, MOST_FRAMES);
            System.arraycopy(other.settings, 0, settings, 0, SETTINGS);
            System.arraycopy(other.weights, 0, weights, 0, DISTANCES);
        }

        void copyDots(int[] from) {
            System.arraycopy(from, 0, dots, 0, frames * MOST_DOTS);
        }

        int size() {
            return wide * high;
        }

        boolean hasFrame(int t) {
            return t >= 0 && t < frames;
        }

        boolean hasPlace(int place) {
            return place >= 0 && place < size();
        }

        boolean allows(int what, int n) {
            if (n < 0 || n > HIGHEST_SETTINGS[what]) {
                return false;
            }
            if (what == BLACK) {
                return n <= settings[WHITE];
            }
            return what != WHITE || n >= settings[BLACK];
        }

        int marked(int[] marks) {
            int many = 0;
            for (int t = 0; t < frames; t++) {
                many += marks[t];
            }
            return many;
        }

        int firstLike(int t) {
            for (int u = 0; u < t; u++) {
                if (sameDots(u, t)) {
                    return u;
                }
            }
            return t;
        }

        private boolean sameDots(int one, int other) {
            for (int place = 0; place < size(); place++) {
                if (dots[one * MOST_DOTS + place] != dots[other * MOST_DOTS + place]) {
                    return false;
                }
            }
            return true;
        }

        /** Blacks and whites are kept as they are. */
        boolean keeps(int shade) {
            return shade <= settings[BLACK] || shade >= settings[WHITE];
        }

        int bounded(int shade, int wanted) {
            int inside = Math.min(Math.max(wanted, settings[BLACK]), settings[WHITE]);
            int step = settings[STEP];
            return Math.min(Math.max(inside, shade - step), shade + step);
        }
    }

    /** How many dots of each frame have a shade or a lesser one, and what follows from it. */
    private static final class Tally {
        final int[] cums = new int[MOST_FRAMES * SHADES];

        void read(int[] dots, int frames, int size) {
            Arrays.fill(cums, 0);
            for (int t = 0; t < frames; t++) {
                int row = t * SHADES;
                for (int place = 0; place < size; place++) {
                    cums[row + dots[t * MOST_DOTS + place]]++;
                }
                for (int s = 1; s < SHADES; s++) {
                    cums[row + s] += cums[row + s - 1];
                }
            }
        }

        int number(int t, int shade) {
            int lesser = shade == 0 ? 0 : cums[t * SHADES + shade - 1];
            return cums[t * SHADES + shade] - lesser;
        }

        int mean(int t) {
            int sum = 0;
            for (int s = 1; s < SHADES; s++) {
                sum += s * number(t, s);
            }
            return sum;
        }

        int shades(int t) {
            int many = 0;
            for (int s = 0; s < SHADES; s++) {
                many += number(t, s) > 0 ? 1 : 0;
            }
            return many;
        }

        int gap(int one, int other) {
            int sum = 0;
            for (int s = 0; s < SHADES; s++) {
                int far = cums[one * SHADES + s] - cums[other * SHADES + s];
                sum += far < 0 ? -far : far;
            }
            return sum;
        }

        /** Frames that are not apart at all have the same counts. */
        boolean isNew(int t) {
            for (int u = 0; u < t; u++) {
                if (gap(u, t) == 0) {
                    return false;
                }
            }
            return true;
        }
    }

    private static final class Scenes {
        final int[] sceneOf = new int[MOST_FRAMES];
        /** One more than there can be scenes: behind the last stands how many frames there are. */
        final int[] firstOf = new int[MOST_FRAMES + 1];
        private final int[] sums = new int[MOST_FRAMES];
        int many;

        void find(Film film, Tally tally) {
            many = 0;
            for (int t = 0; t < film.frames; t++) {
                if (isFirst(film, tally, t)) {
                    firstOf[many] = t;
                    many++;
                }
                sceneOf[t] = many - 1;
            }
            firstOf[many] = film.frames;
        }

        private static boolean isFirst(Film film, Tally tally, int t) {
            if (t == 0 || film.cuts[t] == 1) {
                return true;
            }
            int border = film.settings[BORDER];
            return border > 0 && tally.gap(t - 1, t) > border;
        }

        boolean begins(int t) {
            return firstOf[sceneOf[t]] == t;
        }

        int start(int t) {
            return firstOf[sceneOf[t]];
        }

        int last(int t) {
            return firstOf[sceneOf[t] + 1] - 1;
        }

        int keyFrame(int number, Tally tally) {
            int first = firstOf[number];
            int end = firstOf[number + 1];
            for (int t = first; t < end; t++) {
                sums[t] = 0;
                for (int u = first; u < t; u++) {
                    int gap = tally.gap(u, t);
                    sums[u] += gap;
                    sums[t] += gap;
                }
            }
            int best = first;
            for (int t = first + 1; t < end; t++) {
                best = sums[t] < sums[best] ? t : best;
            }
            return best;
        }
    }

    /** The order of a frame's dots: by shade, then by what is round them, then by place. */
    private static final class Ranks {
        final int[] order = new int[MOST_DOTS];
        private final int[] across = new int[MOST_DOTS];
        private final int[] around = new int[MOST_DOTS];
        private final int[] nextOf = new int[SHADES];
        private int size;

        void read(Film film, int t, Tally tally) {
            size = film.size();
            addAcross(film, t);
            addAround(film, t);
            orderByShade(film, t, tally);
            orderWithinShades(film, t);
        }

        int find(int place) {
            for (int r = 0; r < size; r++) {
                if (order[r] == place) {
                    return r;
                }
            }
            return NONE;
        }

        private void addAcross(Film film, int t) {
            int base = t * MOST_DOTS;
            for (int y = 0; y < film.high; y++) {
                for (int x = 0; x < film.wide; x++) {
                    int place = y * film.wide + x;
                    int left = x > 0 ? film.dots[base + place - 1] : 0;
                    int right = x + 1 < film.wide ? film.dots[base + place + 1] : 0;
                    across[place] = left + film.dots[base + place] + right;
                }
            }
        }

        private void addAround(Film film, int t) {
            for (int place = 0; place < size; place++) {
                int above = place >= film.wide ? across[place - film.wide] : 0;
                int below = place + film.wide < size ? across[place + film.wide] : 0;
                around[place] = above + across[place] + below - film.dots[t * MOST_DOTS + place];
            }
        }

        private void orderByShade(Film film, int t, Tally tally) {
            nextOf[0] = 0;
            for (int s = 1; s < SHADES; s++) {
                nextOf[s] = tally.cums[t * SHADES + s - 1];
            }
            for (int place = 0; place < size; place++) {
                int shade = film.dots[t * MOST_DOTS + place];
                order[nextOf[shade]] = place;
                nextOf[shade]++;
            }
        }

        /** Dots of one shade stand by place already, and keep that where what is round them is like. */
        private void orderWithinShades(Film film, int t) {
            for (int r = 1; r < size; r++) {
                int place = order[r];
                int shade = film.dots[t * MOST_DOTS + place];
                int to = r;
                while (to > 0 && around[order[to - 1]] > around[place]
                        && film.dots[t * MOST_DOTS + order[to - 1]] == shade) {
                    order[to] = order[to - 1];
                    to--;
                }
                order[to] = place;
            }
        }
    }

    /** What follows from a film: counts and scenes, then targets, tables and evened dots, each made when asked for. */
    private static final class Evening {
        final Tally ahead = new Tally();
        final Tally then = new Tally();
        final Scenes scenes = new Scenes();
        final Ranks ranks = new Ranks();
        final int[] targets = new int[MOST_FRAMES * SHADES];
        final int[] tables = new int[MOST_FRAMES * SHADES];
        final int[] dots = new int[MOST_FRAMES * MOST_DOTS];
        private boolean isLooked;
        private boolean isEvened;

        void forget() {
            isLooked = false;
            isEvened = false;
        }

        void forgetEvened() {
            isEvened = false;
        }

        void look(Film film) {
            if (isLooked) {
                return;
            }
            ahead.read(film.dots, film.frames, film.size());
            scenes.find(film, ahead);
            isLooked = true;
        }

        void even(Film film) {
            look(film);
            if (isEvened) {
                return;
            }
            aim(film);
            for (int t = 0; t < film.frames; t++) {
                makeTable(film, t);
                if (film.settings[MODE] == BY_SPREAD) {
                    spreadDots(film, t);
                } else {
                    passByTable(film, t);
                }
            }
            then.read(dots, film.frames, film.size());
            isEvened = true;
        }

        private void aim(Film film) {
            if (film.settings[MODE] == BY_KEY) {
                for (int k = 0; k < scenes.many; k++) {
                    aimByKey(k);
                }
                return;
            }
            for (int t = 0; t < film.frames; t++) {
                aimByWindow(film, t);
            }
        }

        private void aimByKey(int number) {
            int from = scenes.keyFrame(number, ahead);
            for (int t = scenes.firstOf[number]; t < scenes.firstOf[number + 1]; t++) {
                aimAt(t, from);
            }
        }

        private void aimAt(int t, int from) {
            System.arraycopy(ahead.cums, from * SHADES, targets, t * SHADES, SHADES);
        }

        private void aimByWindow(Film film, int t) {
            int row = t * SHADES;
            int weights = 0;
            for (int s = 0; s < SHADES; s++) {
                targets[row + s] = 0;
            }
            for (int u = windowStart(film, t); u <= windowLast(film, t); u++) {
                if (film.skips[u] == 0) {
                    int weight = film.weights[Math.abs(u - t)];
                    weights += weight;
                    addWeighted(row, u * SHADES, weight);
                }
            }
            if (weights == 0) {
                aimAt(t, t);
                return;
            }
            for (int s = 0; s < SHADES; s++) {
                targets[row + s] /= weights;
            }
        }

        private void addWeighted(int row, int fromRow, int weight) {
            for (int s = 0; s < SHADES; s++) {
                targets[row + s] += weight * ahead.cums[fromRow + s];
            }
        }

        private int windowStart(Film film, int t) {
            return Math.max(scenes.start(t), t - film.settings[RADIUS]);
        }

        private int windowLast(Film film, int t) {
            return Math.min(scenes.last(t), t + film.settings[RADIUS]);
        }

        int windowSize(Film film, int t) {
            int many = 0;
            for (int u = windowStart(film, t); u <= windowLast(film, t); u++) {
                many += 1 - film.skips[u];
            }
            return Math.max(many, 1);
        }

        /** Neither cums nor targets fall along the shades, so the shade sought never goes back. */
        private void makeTable(Film film, int t) {
            int row = t * SHADES;
            int wanted = 0;
            for (int s = 0; s < SHADES; s++) {
                while (wanted < LAST_SHADE && targets[row + wanted] < ahead.cums[row + s]) {
                    wanted++;
                }
                tables[row + s] = film.keeps(s) ? s : film.bounded(s, wanted);
            }
        }

        private void passByTable(Film film, int t) {
            for (int place = 0; place < film.size(); place++) {
                int at = t * MOST_DOTS + place;
                dots[at] = tables[t * SHADES + film.dots[at]];
            }
        }

        private void spreadDots(Film film, int t) {
            ranks.read(film, t, ahead);
            int wanted = 0;
            for (int r = 0; r < film.size(); r++) {
                while (wanted < LAST_SHADE && targets[t * SHADES + wanted] <= r) {
                    wanted++;
                }
                int at = t * MOST_DOTS + ranks.order[r];
                int shade = film.dots[at];
                dots[at] = film.keeps(shade) ? shade : film.bounded(shade, wanted);
            }
        }

        int changedIn(Film film, int t) {
            int changed = 0;
            for (int place = 0; place < film.size(); place++) {
                int at = t * MOST_DOTS + place;
                changed += dots[at] != film.dots[at] ? 1 : 0;
            }
            return changed;
        }

        int changedDots(Film film) {
            int changed = 0;
            for (int t = 0; t < film.frames; t++) {
                changed += changedIn(film, t);
            }
            return changed;
        }

        int flickerOf(Tally tally, int frames) {
            int sum = 0;
            for (int t = 1; t < frames; t++) {
                if (!scenes.begins(t)) {
                    sum += tally.gap(t - 1, t);
                }
            }
            return sum;
        }

        /** Only for a frame that has one ahead and a next one. */
        boolean flashes(int t, int much) {
            if (scenes.begins(t) || scenes.begins(t + 1)) {
                return false;
            }
            int before = ahead.mean(t - 1);
            int here = ahead.mean(t);
            int behind = ahead.mean(t + 1);
            return Math.abs(here - before) > much && Math.abs(here - behind) > much
                    && Math.abs(before - behind) <= much;
        }

        boolean meetsAnother(int t, int shade) {
            if (ahead.number(t, shade) == 0) {
                return false;
            }
            for (int s = 0; s < SHADES; s++) {
                if (s != shade && ahead.number(t, s) > 0
                        && tables[t * SHADES + s] == tables[t * SHADES + shade]) {
                    return true;
                }
            }
            return false;
        }
    }

    /** The film as it was ahead of each of the latest acts, the oldest first. */
    private static final class Acts {
        private final Film[] films = new Film[MOST_ACTS];
        int many;

        Acts() {
            for (int i = 0; i < MOST_ACTS; i++) {
                films[i] = new Film();
            }
        }

        void keep(Film film) {
            if (many == MOST_ACTS) {
                dropOldest();
            }
            films[many].copyFrom(film);
            many++;
        }

        private void dropOldest() {
            Film oldest = films[0];
            for (int i = 1; i < MOST_ACTS; i++) {
                films[i - 1] = films[i];
            }
            films[MOST_ACTS - 1] = oldest;
            many--;
        }

        void bringBack(Film film) {
            if (many > 0) {
                many--;
                film.copyFrom(films[many]);
            }
        }
    }

    /** The tape, and how a text on it is read; the fault is that of the latest text read. */
    private static final class Reader {
        final Film film = new Film();
        private final int[] tape = new int[MOST_BYTES];
        private final boolean[] told = new boolean[SETTINGS + 1];
        private final boolean[] weighted = new boolean[DISTANCES];
        int length;
        int fault;
        int place = NONE;
        private int end;
        private int at;
        private int number;
        private int numberAt;

        void putFour(int bytes) {
            for (int shift = 24; shift >= 0 && length < MOST_BYTES; shift -= 8) {
                tape[length] = bytes >> shift & 255;
                length++;
            }
        }

        void readText(int bytes) {
            begin(bytes);
            skipBlanks();
            for (int line = 0; line < MOST_BYTES && at < end && fault == 0; line++) {
                readLine();
                skipBlanks();
            }
            if (fault == 0 && film.settings[BLACK] > film.settings[WHITE]) {
                fail(6, end);
            }
        }

        private void begin(int bytes) {
            film.clear();
            length = 0;
            fault = 0;
            place = NONE;
            end = bytes;
            at = 0;
            for (int i = 0; i <= SETTINGS; i++) {
                told[i] = false;
            }
            for (int i = 0; i < DISTANCES; i++) {
                weighted[i] = false;
            }
        }

        private void fail(int what, int where) {
            fault = what;
            place = where;
        }

        private void skipBlanks() {
            while (at < end && tape[at] == ' ') {
                at++;
            }
        }

        /** Whether the next byte is one of those between two; none is behind the end. */
        private boolean isAt(char least, char most) {
            return at < end && tape[at] >= least && tape[at] <= most;
        }

        private void readLine() {
            int start = at;
            Word word = readWord();
            if (word == null || isOutOfPlace(word)) {
                fail(1, start);
                return;
            }
            if (word == Word.FRAME) {
                readFrame(start);
                return;
            }
            if (word.once != NONE) {
                told[word.once] = true;
            }
            readNumbers(word);
            if (fault == 0) {
                readLineEnd();
            }
        }

        private Word readWord() {
            int start = at;
            while (at < end && isAt('a', 'z')) {
                at++;
            }
            for (Word word : WORDS) {
                if (stands(word.text, start)) {
                    return word;
                }
            }
            return null;
        }

        private boolean stands(String text, int start) {
            if (text.length() != at - start) {
                return false;
            }
            for (int i = 0; i < text.length(); i++) {
                if (tape[start + i] != text.charAt(i)) {
                    return false;
                }
            }
            return true;
        }

        private boolean isOutOfPlace(Word word) {
            if (word == Word.SIZE && film.frames > 0) {
                return true;
            }
            return word.once != NONE && told[word.once];
        }

        private void readNumbers(Word word) {
            if (word == Word.SIZE) {
                readSize();
            } else if (word == Word.WEIGHT) {
                readWeight();
            } else if (word == Word.CUT) {
                readMark(film.cuts, 1);
            } else if (word == Word.SKIP) {
                readMark(film.skips, 0);
            } else if (word == Word.SPREAD) {
                film.settings[MODE] = BY_SPREAD;
            } else if (word == Word.KEYED) {
                film.settings[MODE] = BY_KEY;
            } else if (word.once != NONE && readNumber(0, HIGHEST_SETTINGS[word.once])) {
                film.settings[word.once] = number;
            }
        }

        private void readSize() {
            if (readNumber(1, 8)) {
                film.wide = number;
                if (readNumber(1, 8)) {
                    film.high = number;
                }
            }
        }

        private void readWeight() {
            if (!readNumber(0, DISTANCES - 1)) {
                return;
            }
            int far = number;
            if (weighted[far]) {
                fail(1, numberAt);
            } else if (readNumber(1, MOST_WEIGHT)) {
                weighted[far] = true;
                film.weights[far] = number;
            }
        }

        private void readMark(int[] marks, int least) {
            if (!readNumber(least, film.frames - 1)) {
                return;
            }
            if (marks[number] == 1) {
                fail(1, numberAt);
            } else {
                marks[number] = 1;
            }
        }

        /** Whether a number within bounds stands next; it is in number then, and its place in numberAt. */
        private boolean readNumber(int least, int most) {
            skipBlanks();
            numberAt = at;
            number = 0;
            while (at < end && isAt('0', '9')) {
                // A fourth digit is out of bounds anyway, so the number need not grow by it.
                if (at - numberAt < 3) {
                    number = number * 10 + tape[at] - '0';
                }
                at++;
            }
            if (at == numberAt) {
                fail(1, at);
            } else if (at - numberAt > 3 || number < least || number > most) {
                fail(2, numberAt);
            }
            return fault == 0;
        }

        private void readLineEnd() {
            skipBlanks();
            if (isAt(';', ';')) {
                at++;
            } else {
                fail(1, at);
            }
        }

        private void readFrame(int wordAt) {
            if (film.frames >= MOST_FRAMES) {
                fail(5, wordAt);
                return;
            }
            int dots = 0;
            for (int run = 0; run < MOST_BYTES && fault == 0; run++) {
                skipBlanks();
                if (run > 0 && isAt(';', ';')) {
                    endFrame(dots);
                    return;
                }
                dots += readRun(dots);
            }
        }

        private void endFrame(int dots) {
            if (dots < film.size()) {
                fail(4, at);
            } else {
                at++;
                film.frames++;
            }
        }

        /** How many dots the run tells. */
        private int readRun(int dots) {
            if (!isAt('a', 'p')) {
                fail(1, at);
                return 0;
            }
            int letterAt = at;
            int shade = tape[at] - 'a';
            int many = 1;
            at++;
            skipBlanks();
            if (isAt('0', '9')) {
                if (!readNumber(1, MOST_DOTS)) {
                    return 0;
                }
                many = number;
            }
            if (dots + many > film.size()) {
                fail(3, letterAt);
                return 0;
            }
            for (int place = dots; place < dots + many; place++) {
                film.dots[film.frames * MOST_DOTS + place] = shade;
            }
            return many;
        }
    }

    /** Frames parted into rows, each told by one frame of it. */
    private static final class Parting {
        boolean ready;
        private int frames;
        private final int[] sums = new int[MOST_FRAMES];
        /** By a frame, then by a later one: how far they are apart. */
        private final int[] gaps = new int[MOST_FRAMES * MOST_FRAMES];
        /** By the first frame of a row, then by the last: what it costs. */
        private final int[] costs = new int[MOST_FRAMES * MOST_FRAMES];
        /** By how many rows, then by the first frame: what all from there on cost at least. */
        private final int[] leasts = new int[(MOST_PARTS + 1) * (MOST_FRAMES + 1)];

        void work(Tally tally, int many) {
            if (ready) {
                return;
            }
            frames = many;
            measureGaps(tally);
            for (int first = 0; first < frames; first++) {
                addCosts(first);
            }
            Arrays.fill(leasts, ENDLESS);
            leasts[frames] = 0;
            for (int rows = 1; rows <= MOST_PARTS; rows++) {
                for (int first = 0; first < frames; first++) {
                    leasts[rows * (MOST_FRAMES + 1) + first] = leastOf(rows, first);
                }
            }
            ready = true;
        }

        private void measureGaps(Tally tally) {
            for (int t = 0; t < frames; t++) {
                for (int u = t + 1; u < frames; u++) {
                    gaps[t * MOST_FRAMES + u] = tally.gap(t, u);
                }
            }
        }

        /** A row grows by one frame after another; sums hold how far all of it are from each of its frames. */
        private void addCosts(int first) {
            for (int last = first; last < frames; last++) {
                int least = ENDLESS;
                int sum = 0;
                for (int t = first; t < last; t++) {
                    int gap = gaps[t * MOST_FRAMES + last];
                    sum += gap;
                    sums[t] += gap;
                    least = Math.min(least, sums[t]);
                }
                sums[last] = sum;
                costs[first * MOST_FRAMES + last] = Math.min(least, sum);
            }
        }

        private int leastOf(int rows, int first) {
            int best = ENDLESS;
            for (int next = first + 1; next <= frames; next++) {
                best = Math.min(best, costBy(rows, first, next));
            }
            return best;
        }

        /** What all costs from a frame on, if the second row begins with next. */
        private int costBy(int rows, int first, int next) {
            return costs[first * MOST_FRAMES + next - 1] + least(rows - 1, next);
        }

        int least(int rows, int first) {
            return leasts[rows * (MOST_FRAMES + 1) + first];
        }

        /** The frame with which the k-th of n rows begins: each begins as early as the least cost lets it. */
        int start(int n, int k) {
            int first = 0;
            for (int row = 0; row < k; row++) {
                int rows = n - row;
                int next = first + 1;
                while (next < frames && costBy(rows, first, next) > least(rows, first)) {
                    next++;
                }
                first = next;
            }
            return first;
        }
    }

    /** The table that never falls and brings one frame nearest to another. */
    private static final class Fit {
        /** By a shade, then by the shade to which it comes: how much its dots differ. */
        private final int[] costs = new int[SHADES * SHADES];
        /** By a shade, then by the least to which it may come: what it and all greater ones cost at least. */
        final int[] least = new int[(SHADES + 1) * SHADES];

        void work(Film film, int from, int to) {
            addCosts(film, from, to);
            for (int s = LAST_SHADE; s >= 0; s--) {
                int best = ENDLESS;
                for (int v = LAST_SHADE; v >= 0; v--) {
                    best = Math.min(best, costBy(s, v));
                    least[s * SHADES + v] = best;
                }
            }
        }

        private void addCosts(Film film, int from, int to) {
            Arrays.fill(costs, 0);
            for (int place = 0; place < film.size(); place++) {
                int shade = film.dots[from * MOST_DOTS + place];
                int other = film.dots[to * MOST_DOTS + place];
                for (int v = 0; v < SHADES; v++) {
                    costs[shade * SHADES + v] += Math.abs(v - other);
                }
            }
        }

        private int costBy(int s, int v) {
            return costs[s * SHADES + v] + least[(s + 1) * SHADES + v];
        }

        int comesTo(int shade) {
            int v = 0;
            for (int s = 0; s <= shade; s++) {
                while (v < LAST_SHADE && costBy(s, v) > least[s * SHADES + v]) {
                    v++;
                }
            }
            return v;
        }
    }

    /** How the dots of a frame moved to the next one. */
    private static final class Move {
        int right;
        int down;
        int dots;

        /** Steps go by x, then y, from the least on, so that of like ones the first stays. */
        void work(Film film, int t) {
            dots = NONE;
            for (int x = -FARTHEST_SHIFT; x <= FARTHEST_SHIFT; x++) {
                for (int y = -FARTHEST_SHIFT; y <= FARTHEST_SHIFT; y++) {
                    int same = sameDots(film, t, x, y);
                    if (same > dots || same == dots && isShorter(x, y)) {
                        right = x;
                        down = y;
                        dots = same;
                    }
                }
            }
        }

        private boolean isShorter(int x, int y) {
            return Math.abs(x) + Math.abs(y) < Math.abs(right) + Math.abs(down);
        }

        private static int sameDots(Film film, int t, int x, int y) {
            int same = 0;
            for (int v = Math.max(0, -y); v < Math.min(film.high, film.high - y); v++) {
                for (int u = Math.max(0, -x); u < Math.min(film.wide, film.wide - x); u++) {
                    int here = t * MOST_DOTS + v * film.wide + u;
                    int there = here + MOST_DOTS + y * film.wide + x;
                    same += film.dots[here] == film.dots[there] ? 1 : 0;
                }
            }
            return same;
        }
    }
}
