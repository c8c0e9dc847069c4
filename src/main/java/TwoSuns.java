/**
 * Whether a picture was pieced: lamps, lines, grain, squares, pieces that are there twice, acts done to
 * pictures and their shortest story, makers and their habits. The words in capitals of the document
 * (shared/DOC.md) are used here in small letters; each public method keeps the promise of its own name.
 */
public final class TwoSuns {
    public static final int NONE = -1;

    private static final int NOWHERE = -1000;
    private static final int LEAST_SIDE = 4;
    private static final int MOST_SIDE = 12;
    private static final int PICTURES = 5;
    private static final int BRIGHTEST = 99;
    private static final int CELLS_OF_A_ROW_CALL = 8;
    private static final long MOST_FIGURES = 9999999999999999L;

    private static final int MOST_SHADOWS = 12;
    private static final int MOST_SHINES = 8;
    private static final int FARTHEST = 99;
    private static final int MOST_FACTOR = 300;
    private static final int BEYOND_ALL = 1000000;
    private static final int MOST_SIDEWAYS = 20;
    private static final int MOST_SUNS = 3;
    private static final int MOST_LINES = 10;
    private static final int MOST_SLACK = 9;

    private static final int BLOCK = 4;
    private static final int MOST_BLOCKS = 9;
    private static final int ODDNESS_OF_SAY = 3;
    private static final int FIRST_OF_MANY = 100;

    private static final int MOST_TEXTS = 6;
    private static final int MOST_BYTES = 300;
    private static final int BYTES_OF_A_FEED = 20;
    private static final int MOST_STORY = 3;
    private static final int HOW_MANY_STORIES = -2;

    private static final int MAKERS = 4;
    private static final int HABITS = 6;
    private static final int MIDDLING = 50;
    private static final int MOST_WEIGHT = 9;
    private static final int LAST_YEAR = 50;
    private static final int FIRST_WEIGHT_ASKED = 10;

    private final State now;
    private final State kept;
    private final Signs signs;
    private final Lines lines;
    private final Blocks blocks;
    private final Twins twins;
    private final Shift shift;
    private final Reader reader;
    private final Doer doer;
    private final Teller teller;
    private final Program[] programs;

    public TwoSuns(int w, int h) {
        int width = Math.max(LEAST_SIDE, Math.min(MOST_SIDE, w));
        int height = Math.max(LEAST_SIDE, Math.min(MOST_SIDE, h));
        now = new State(width, height);
        kept = new State(width, height);
        signs = new Signs();
        lines = new Lines();
        blocks = new Blocks();
        twins = new Twins();
        shift = new Shift();
        reader = new Reader();
        doer = new Doer(width, height);
        teller = new Teller(width, height);
        programs = new Program[MOST_TEXTS];
        for (int i = 0; i < MOST_TEXTS; i++) {
            programs[i] = new Program();
        }
    }

    public boolean light(int picture, int x, int y, int v) {
        Picture p = now.picture(picture);
        if (p == null || !p.has(x, y) || !within(v, 0, BRIGHTEST)) {
            return false;
        }
        p.put(x, y, v);
        return true;
    }

    public int row(int picture, int x, int y, long figures) {
        Picture p = now.picture(picture);
        if (p == null || !p.has(x, y) || figures < 0 || figures > MOST_FIGURES) {
            return NONE;
        }
        int count = Math.min(CELLS_OF_A_ROW_CALL, p.width - x);
        long rest = figures;
        for (int i = 0; i < count; i++) {
            p.put(x + i, y, (int) (rest % 100));
            rest = rest / 100;
        }
        return count;
    }

    public int at(int picture, int x, int y) {
        Picture p = now.picture(picture);
        if (p == null || !p.has(x, y)) {
            return NONE;
        }
        return p.get(x, y);
    }

    public boolean copy(int from, int to) {
        Picture source = now.picture(from);
        Picture target = now.picture(to);
        if (source == null || target == null) {
            return false;
        }
        target.become(source);
        return true;
    }

    public int shadow(int high, int ex, int ey, int low, int most, int side) {
        boolean thing = within(high, 1, FARTHEST) && isPoint(ex, ey);
        boolean ground = within(low, 1, MOST_FACTOR) && within(most, low, MOST_FACTOR);
        if (!thing || !ground || !within(side, 0, MOST_SIDEWAYS) || now.shadows >= MOST_SHADOWS) {
            return NONE;
        }
        signs.addShadow(now.shadows, high, ex, ey, low, most, side);
        now.shadows++;
        return now.shadows - 1;
    }

    public int shine(int point) {
        if (!within(point, 0, Signs.POINTS - 1) || now.shines >= MOST_SHINES) {
            return NONE;
        }
        signs.addShine(MOST_SHADOWS + now.shines, point);
        now.shines++;
        return now.shines - 1;
    }

    public int lamps(int set, int i) {
        if (!areTold(set) || i < NONE) {
            return NONE;
        }
        return i == NONE ? signs.countLet(set) : signs.nameOf(signs.nthLet(set, i));
    }

    public int fight(int set, int what) {
        if (!areTold(set) || !within(what, 0, 2)) {
            return NONE;
        }
        int lamp = signs.mostLet(set);
        int letting = set & signs.signsLetting(lamp);
        if (what == 0) {
            return signs.nameOf(lamp);
        }
        return what == 1 ? Integer.bitCount(letting) : set & ~letting;
    }

    public int suns(int set, int i) {
        if (!areTold(set) || i < NONE) {
            return NONE;
        }
        int count = signs.findSuns(set);
        if (i == NONE) {
            return count;
        }
        return i < count ? signs.nameOf(signs.sun(i, count)) : NONE;
    }

    public int line(int ax, int ay, int bx, int by) {
        boolean unlike = ax != bx || ay != by;
        if (!isPoint(ax, ay) || !isPoint(bx, by) || !unlike || now.lines >= MOST_LINES) {
            return NONE;
        }
        lines.put(now.lines, ax, ay, bx, by);
        now.lines++;
        return now.lines - 1;
    }

    public int meet(int slack, int what) {
        if (!within(slack, 0, MOST_SLACK) || !within(what, 0, 3) || now.lines == 0) {
            return NOWHERE;
        }
        lines.findMeeting(now.lines, slack);
        if (what == 0) {
            return lines.meetX;
        }
        if (what == 1) {
            return lines.meetY;
        }
        return what == 2 ? lines.meetCount : lines.missing(now.lines, slack);
    }

    public int rough(int picture, int x, int y, int w, int h) {
        Picture p = now.picture(picture);
        if (p == null || !p.hasField(x, y, w, h)) {
            return NONE;
        }
        return p.roughness(x, y, w, h);
    }

    public int grain(int picture, int t, int what) {
        Picture p = now.picture(picture);
        if (p == null || !within(t, 2, 99)) {
            return NONE;
        }
        blocks.measure(p);
        if (what == 0) {
            return blocks.count;
        }
        if (what == 1) {
            return blocks.median;
        }
        if (what == 2) {
            return blocks.countOdd(t);
        }
        if (!within(what, FIRST_OF_MANY, FIRST_OF_MANY + blocks.count - 1)) {
            return NONE;
        }
        return blocks.isOdd(what - FIRST_OF_MANY, t) ? 1 : 0;
    }

    public int squares(int picture, int x, int y, int w, int h, boolean inY) {
        Picture p = now.picture(picture);
        if (p == null || w < BLOCK || h < BLOCK || !p.hasField(x, y, w, h)) {
            return NONE;
        }
        return blocks.steepestOffset(p, x, y, w, h, inY);
    }

    public int twice(int picture, int k, int t, int what) {
        Picture p = now.picture(picture);
        if (p == null || !isPiece(k, t) || !within(what, 0, 4)) {
            return NONE;
        }
        twins.search(p, k, t);
        return what == 0 ? twins.pairs : twins.ofFirstPair(what);
    }

    public int two(int one, int other, int what) {
        Picture p = now.picture(one);
        Picture q = now.picture(other);
        boolean counting = within(what, FIRST_OF_MANY, FIRST_OF_MANY + 99);
        if (p == null || q == null || !(counting || within(what, 0, 3))) {
            return NOWHERE;
        }
        shift.findNearest(p, q);
        if (what == 0) {
            return shift.dx;
        }
        if (what == 1) {
            return shift.dy;
        }
        if (what == 2) {
            return shift.apart;
        }
        return what == 3 ? shift.cells : shift.countBeyond(p, q, what - FIRST_OF_MANY);
    }

    public int feed(int a, int b, int c, int d, int e) {
        if (reader.length + BYTES_OF_A_FEED > MOST_BYTES) {
            return NONE;
        }
        reader.append(a);
        reader.append(b);
        reader.append(c);
        reader.append(d);
        reader.append(e);
        return reader.length;
    }

    public int end(int n) {
        if (!within(n, 0, reader.length)) {
            return NONE;
        }
        reader.length = n;
        return n;
    }

    public int text() {
        // With all numbers taken the tape stays as it is, so it is not read either.
        if (!within(now.texts, 0, programs.length - 1) || programs[now.texts] == null) {
            return NONE;
        }
        reader.read(programs[now.texts]);
        reader.length = 0;
        if (reader.fault != 0) {
            return NONE;
        }
        now.texts++;
        return now.texts - 1;
    }

    public int fault(int what) {
        if (!reader.anyRead || !within(what, 0, 1)) {
            return NONE;
        }
        return what == 0 ? reader.fault : reader.faultPlace;
    }

    public int act(int text, int picture) {
        Picture p = now.picture(picture);
        if (p == null || !within(text, 0, now.texts - 1) || text >= programs.length) {
            return NONE;
        }
        return doer.perform(programs[text], p, now);
    }

    public int story(int from, int to, int i) {
        Picture p = now.picture(from);
        Picture q = now.picture(to);
        if (p == null || q == null || i < HOW_MANY_STORIES) {
            return NONE;
        }
        teller.findShortest(p, q, now, programs, doer);
        if (teller.length == NONE) {
            return NONE;
        }
        if (i == HOW_MANY_STORIES) {
            return teller.count;
        }
        return i == NONE ? teller.length : teller.textOf(i);
    }

    public boolean maker(int maker, int weight) {
        if (!isMaker(maker) || !within(weight, 0, MOST_WEIGHT)) {
            return false;
        }
        now.weights[maker] = weight;
        return true;
    }

    public boolean habit(int maker, int habit, int v) {
        if (!isMaker(maker) || !within(habit, 0, HABITS - 1) || !within(v, 1, 99)) {
            return false;
        }
        now.habits[maker * HABITS + habit] = v;
        return true;
    }

    public boolean wane(int v) {
        if (!within(v, 0, 100)) {
            return false;
        }
        now.waning = v;
        return true;
    }

    public int odds(int maker, int year, int has) {
        if (!isMaker(maker) || !within(year, 0, LAST_YEAR) || !within(has, 0, (1 << HABITS) - 1)) {
            return NONE;
        }
        long all = 0;
        for (int i = 0; i < MAKERS; i++) {
            all += now.chance(i, year, has);
        }
        if (all <= 0) {
            return NONE;
        }
        return (int) (1000 * now.chance(maker, year, has) / all);
    }

    public int say(int picture, int block, int k, int t) {
        Picture p = now.picture(picture);
        if (p == null || !isPiece(k, t)) {
            return NONE;
        }
        blocks.measure(p);
        if (!within(block, 0, blocks.count - 1)) {
            return NONE;
        }
        twins.search(p, k, t);
        if (twins.touch(blocks.leftOf(block), blocks.topOf(block))) {
            return 2;
        }
        return blocks.isOdd(block, ODDNESS_OF_SAY) ? 1 : 0;
    }

    public int image() {
        kept.become(now);
        return now.texts;
    }

    public int back() {
        now.become(kept);
        return now.texts;
    }

    public int about(int what) {
        switch (what) {
            case 0:
                return now.width;
            case 1:
                return now.height;
            case 2:
                return now.shadows;
            case 3:
                return now.shines;
            case 4:
                return now.lines;
            case 5:
                return now.texts;
            case 6:
                return reader.length;
            case 7:
                return now.waning;
            default:
                return isMaker(what - FIRST_WEIGHT_ASKED) ? now.weights[what - FIRST_WEIGHT_ASKED] : NONE;
        }
    }

    private static boolean within(int v, int low, int high) {
        return v >= low && v <= high;
    }

    private static boolean isPoint(int x, int y) {
        return within(x, -FARTHEST, FARTHEST) && within(y, -FARTHEST, FARTHEST);
    }

    private static boolean isPiece(int k, int t) {
        return within(k, 2, 6) && within(t, 0, 9);
    }

    private static boolean isMaker(int maker) {
        return within(maker, 0, MAKERS - 1);
    }

    private boolean areTold(int set) {
        int shadows = (1 << now.shadows) - 1;
        int shines = ((1 << now.shines) - 1) << MOST_SHADOWS;
        return (set & ~(shadows | shines)) == 0;
    }

    /** The least f from low on with |tip + pull f| <= slack; if there is none, one above greatestNear. */
    private static int leastNear(int tip, int pull, int slack, int low) {
        if (pull == 0) {
            return Math.abs(tip) <= slack ? low : BEYOND_ALL;
        }
        int towards = pull < 0 ? -tip : tip;
        return Math.max(low, -Math.floorDiv(slack + towards, Math.abs(pull)));
    }

    /** The greatest f up to high with |tip + pull f| <= slack; if there is none, one below leastNear. */
    private static int greatestNear(int tip, int pull, int slack, int high) {
        if (pull == 0) {
            return high;
        }
        int towards = pull < 0 ? -tip : tip;
        return Math.min(high, Math.floorDiv(slack - towards, Math.abs(pull)));
    }

    /** Cells of light; what lies beyond it is dark to read and is not written. */
    static final class Picture {
        final int width;
        final int height;
        private final int[] cells;

        Picture(int w, int h) {
            width = within(w, 1, MOST_SIDE) ? w : MOST_SIDE;
            height = within(h, 1, MOST_SIDE) ? h : MOST_SIDE;
            cells = new int[width * height];
        }

        boolean has(int x, int y) {
            return x >= 0 && x < width && y >= 0 && y < height;
        }

        boolean hasField(int x, int y, int w, int h) {
            return has(x, y) && within(w, 1, width - x) && within(h, 1, height - y);
        }

        int get(int x, int y) {
            boolean inside = x >= 0 && x < width && y >= 0 && y < height;
            return inside ? cells[y * width + x] : 0;
        }

        void put(int x, int y, int v) {
            boolean inside = x >= 0 && x < width && y >= 0 && y < height;
            if (inside) {
                cells[y * width + x] = v;
            }
        }

        void become(Picture other) {
            if (other == null) {
                return;
            }
            int count = Math.min(cells.length, other.cells.length);
            System.arraycopy(other.cells, 0, cells, 0, count);
        }

        boolean isAs(Picture other) {
            if (other == null || other.cells.length != cells.length) {
                return false;
            }
            for (int i = 0; i < cells.length; i++) {
                if (cells[i] != other.cells[i]) {
                    return false;
                }
            }
            return true;
        }

        int roughness(int x, int y, int w, int h) {
            int sum = 0;
            for (int cy = y; cy < y + h; cy++) {
                for (int cx = x; cx < x + w; cx++) {
                    int here = get(cx, cy);
                    if (cx > x) {
                        sum += Math.abs(here - get(cx - 1, cy));
                    }
                    if (cy > y) {
                        sum += Math.abs(here - get(cx, cy - 1));
                    }
                }
            }
            return sum;
        }
    }

    /**
     * All that an image holds. Shadows, shines, lines and texts are only ever added, and what the image
     * has of them is always the beginning of what there is: so an image needs no more than their numbers.
     */
    static final class State {
        final int width;
        final int height;
        private final Picture[] pictures = new Picture[PICTURES];
        final int[] weights = new int[MAKERS];
        final int[] habits = new int[MAKERS * HABITS];
        int waning = 90;
        int shadows;
        int shines;
        int lines;
        int texts;

        State(int w, int h) {
            width = w;
            height = h;
            for (int i = 0; i < pictures.length; i++) {
                pictures[i] = new Picture(w, h);
            }
            for (int i = 0; i < habits.length; i++) {
                habits[i] = MIDDLING;
            }
        }

        /** Null if there is no such picture. */
        Picture picture(int number) {
            return within(number, 0, pictures.length - 1) ? pictures[number] : null;
        }

        void become(State other) {
            for (int i = 0; i < pictures.length; i++) {
                if (pictures[i] != null) {
                    pictures[i].become(other.picture(i));
                }
            }
            System.arraycopy(other.weights, 0, weights, 0, weights.length);
            System.arraycopy(other.habits, 0, habits, 0, habits.length);
            waning = other.waning;
            shadows = other.shadows;
            shines = other.shines;
            lines = other.lines;
            texts = other.texts;
        }

        long chance(int maker, int year, int has) {
            if (!isMaker(maker)) {
                return 0;
            }
            long chance = weights[maker];
            for (int i = 0; i < HABITS; i++) {
                int habit = waned(habits[maker * HABITS + i], year);
                chance *= (has >> i & 1) == 1 ? habit : 100 - habit;
            }
            return chance;
        }

        private int waned(int habit, int year) {
            int off = habit - MIDDLING;
            for (int i = 0; i < year; i++) {
                off = off * waning / 100;
            }
            return MIDDLING + off;
        }
    }

    /** Lamps by their place in the document's order, and of each the signs (as bits) that let it. */
    static final class Signs {
        static final int POINTS = 8;
        private static final int REACH = 5;
        private static final int WAYS = 2 * REACH + 1;
        private static final int HEIGHTS = 6;
        private static final int LAMPS = WAYS * WAYS * HEIGHTS;

        private final int[] signsOf = new int[LAMPS];
        private final int[] kindMasks = new int[LAMPS];
        private final int[] kindLamps = new int[LAMPS];
        private final int[] found = new int[MOST_SUNS];
        private int kinds;
        private int mostOfOne;

        private static int dxOf(int lamp) {
            return lamp % WAYS - REACH;
        }

        private static int dyOf(int lamp) {
            return lamp / WAYS % WAYS - REACH;
        }

        private static int heightOf(int lamp) {
            return lamp / (WAYS * WAYS) + 1;
        }

        int nameOf(int lamp) {
            if (!within(lamp, 0, LAMPS - 1)) {
                return NONE;
            }
            return 10000 * heightOf(lamp) + 100 * (dyOf(lamp) + REACH) + dxOf(lamp) + REACH;
        }

        int signsLetting(int lamp) {
            return within(lamp, 0, LAMPS - 1) ? signsOf[lamp] : 0;
        }

        void addShadow(int bit, int high, int ex, int ey, int low, int most, int side) {
            for (int lamp = 0; lamp < LAMPS; lamp++) {
                int unit = 100 * heightOf(lamp);
                int slack = unit * side;
                int pullX = dxOf(lamp) * high;
                int pullY = dyOf(lamp) * high;
                int least = leastNear(unit * ex, pullX, slack, low);
                int greatest = greatestNear(unit * ex, pullX, slack, most);
                least = Math.max(least, leastNear(unit * ey, pullY, slack, low));
                greatest = Math.min(greatest, greatestNear(unit * ey, pullY, slack, most));
                mark(lamp, bit, least <= greatest);
            }
        }

        void addShine(int bit, int point) {
            for (int lamp = 0; lamp < LAMPS; lamp++) {
                int azimuth = azimuthOf(dxOf(lamp), dyOf(lamp));
                int off = Math.floorMod(azimuth - point, POINTS);
                mark(lamp, bit, azimuth == NONE || off <= 1 || off == POINTS - 1);
            }
        }

        private static int azimuthOf(int dx, int dy) {
            int a = Math.abs(dx);
            int b = Math.abs(dy);
            if (a == 0 && b == 0) {
                return NONE;
            }
            if (2 * b < a) {
                return dx > 0 ? 0 : 4;
            }
            if (2 * a < b) {
                return dy < 0 ? 2 : 6;
            }
            if (dy < 0) {
                return dx > 0 ? 1 : 3;
            }
            return dx < 0 ? 5 : 7;
        }

        /** A bit may be left from ahead of a way back to the image, so it is cleared too. */
        private void mark(int lamp, int bit, boolean lets) {
            if (within(lamp, 0, LAMPS - 1)) {
                int others = signsOf[lamp] & ~(1 << bit);
                signsOf[lamp] = lets ? others | 1 << bit : others;
            }
        }

        int countLet(int set) {
            int count = 0;
            for (int lamp = 0; lamp < LAMPS; lamp++) {
                if ((signsOf[lamp] & set) == set) {
                    count++;
                }
            }
            return count;
        }

        int nthLet(int set, int n) {
            int left = n;
            for (int lamp = 0; lamp < LAMPS; lamp++) {
                if ((signsOf[lamp] & set) == set) {
                    if (left == 0) {
                        return lamp;
                    }
                    left--;
                }
            }
            return NONE;
        }

        int mostLet(int set) {
            int best = 0;
            int most = NONE;
            for (int lamp = 0; lamp < LAMPS; lamp++) {
                int count = Integer.bitCount(signsOf[lamp] & set);
                if (count > most) {
                    most = count;
                    best = lamp;
                }
            }
            return best;
        }

        /** How many suns there are; NONE if more than there may be. */
        int findSuns(int set) {
            if (set == 0) {
                return 0;
            }
            gatherKinds(set);
            if (oneLets(set, 0)) {
                return 1;
            }
            if (twoLet(set, 0)) {
                return 2;
            }
            return threeLet(set) ? 3 : NONE;
        }

        /** The i-th of so many suns; they stand at the end of those found. */
        int sun(int i, int count) {
            int place = MOST_SUNS - count + i;
            return within(place, 0, MOST_SUNS - 1) ? found[place] : NONE;
        }

        /** Of lamps that the same signs let only the first can stand in the first of the fewest. */
        private void gatherKinds(int set) {
            kinds = 0;
            mostOfOne = 0;
            for (int lamp = 0; lamp < LAMPS; lamp++) {
                int mask = signsOf[lamp] & set;
                if (mask != 0 && !isKind(mask) && kinds < LAMPS) {
                    kindMasks[kinds] = mask;
                    kindLamps[kinds] = lamp;
                    kinds++;
                    mostOfOne = Math.max(mostOfOne, Integer.bitCount(mask));
                }
            }
        }

        private boolean isKind(int mask) {
            for (int i = 0; i < kinds; i++) {
                if (kindMasks[i] == mask) {
                    return true;
                }
            }
            return false;
        }

        /** More signs than the best lamp lets need no search. */
        private boolean oneLets(int rest, int from) {
            if (Integer.bitCount(rest) > mostOfOne) {
                return false;
            }
            for (int i = Math.max(0, from); i < kinds; i++) {
                if ((rest & ~kindMasks[i]) == 0) {
                    found[MOST_SUNS - 1] = kindLamps[i];
                    return true;
                }
            }
            return false;
        }

        private boolean twoLet(int rest, int from) {
            if (Integer.bitCount(rest) > 2 * mostOfOne) {
                return false;
            }
            for (int i = Math.max(0, from); i < kinds; i++) {
                if (oneLets(rest & ~kindMasks[i], i + 1)) {
                    found[MOST_SUNS - 2] = kindLamps[i];
                    return true;
                }
            }
            return false;
        }

        private boolean threeLet(int set) {
            for (int i = 0; i < kinds; i++) {
                if (twoLet(set & ~kindMasks[i], i + 1)) {
                    found[MOST_SUNS - 3] = kindLamps[i];
                    return true;
                }
            }
            return false;
        }
    }

    /** Lines, each by its first end and its way from there, and where most of them meet. */
    static final class Lines {
        private static final int EDGE = 40;

        private final int[] startX = new int[MOST_LINES];
        private final int[] startY = new int[MOST_LINES];
        private final int[] wayX = new int[MOST_LINES];
        private final int[] wayY = new int[MOST_LINES];
        private final int[] through = new int[2 * EDGE + 1];
        int meetX;
        int meetY;
        int meetCount;

        void put(int line, int ax, int ay, int bx, int by) {
            if (within(line, 0, MOST_LINES - 1)) {
                startX[line] = ax;
                startY[line] = ay;
                wayX[line] = bx - ax;
                wayY[line] = by - ay;
            }
        }

        void findMeeting(int count, int slack) {
            meetCount = NONE;
            for (int y = -EDGE; y <= EDGE; y++) {
                countThrough(y, count, slack);
                for (int i = 0; i < through.length; i++) {
                    if (through[i] > meetCount) {
                        meetCount = through[i];
                        meetX = i - EDGE;
                        meetY = y;
                    }
                }
            }
        }

        /** Of one row of points, how many lines go through each: a line's points there are neighbours. */
        private void countThrough(int y, int count, int slack) {
            for (int i = 0; i < through.length; i++) {
                through[i] = 0;
            }
            for (int line = 0; line < Math.min(count, MOST_LINES); line++) {
                int reach = reachOf(line, slack);
                int tip = wayX[line] * (y - startY[line]) + wayY[line] * startX[line];
                int from = leastNear(tip, -wayY[line], reach, -EDGE);
                int to = greatestNear(tip, -wayY[line], reach, EDGE);
                for (int x = Math.max(from, -EDGE); x <= Math.min(to, EDGE); x++) {
                    through[x + EDGE]++;
                }
            }
        }

        /** As bits, the lines that don't go through the latest point of meeting. */
        int missing(int count, int slack) {
            int bits = 0;
            for (int line = 0; line < Math.min(count, MOST_LINES); line++) {
                int cross = wayX[line] * (meetY - startY[line]) - wayY[line] * (meetX - startX[line]);
                if (Math.abs(cross) > reachOf(line, slack)) {
                    bits |= 1 << line;
                }
            }
            return bits;
        }

        private int reachOf(int line, int slack) {
            if (!within(line, 0, MOST_LINES - 1)) {
                return 0;
            }
            return slack * (Math.abs(wayX[line]) + Math.abs(wayY[line]));
        }
    }

    /** Blocks of the latest picture that was measured, and how rough each of them is. */
    static final class Blocks {
        private final int[] roughness = new int[MOST_BLOCKS];
        private final int[] steps = new int[BLOCK];
        private final int[] pairs = new int[BLOCK];
        private int across;
        int count;
        int median;

        void measure(Picture p) {
            across = p.width / BLOCK;
            count = Math.min(MOST_BLOCKS, across * (p.height / BLOCK));
            for (int i = 0; i < count; i++) {
                roughness[i] = p.roughness(leftOf(i), topOf(i), BLOCK, BLOCK);
            }
            median = findMedian();
        }

        int leftOf(int block) {
            return across > 0 ? block % across * BLOCK : 0;
        }

        int topOf(int block) {
            return across > 0 ? block / across * BLOCK : 0;
        }

        boolean isOdd(int block, int t) {
            if (!within(block, 0, count - 1)) {
                return false;
            }
            return roughness[block] * t < median || median * t < roughness[block];
        }

        int countOdd(int t) {
            int odd = 0;
            for (int i = 0; i < count; i++) {
                if (isOdd(i, t)) {
                    odd++;
                }
            }
            return odd;
        }

        private int findMedian() {
            int middle = (count - 1) / 2;
            for (int i = 0; i < count; i++) {
                int below = countBelow(roughness[i]);
                int belowOrLike = countBelow(roughness[i] + 1);
                if (below <= middle && middle < belowOrLike) {
                    return roughness[i];
                }
            }
            return NONE;
        }

        private int countBelow(int v) {
            int below = 0;
            for (int i = 0; i < count; i++) {
                if (roughness[i] < v) {
                    below++;
                }
            }
            return below;
        }

        int steepestOffset(Picture p, int x, int y, int w, int h, boolean inY) {
            for (int i = 0; i < BLOCK; i++) {
                steps[i] = 0;
                pairs[i] = 0;
            }
            for (int cy = inY ? y + 1 : y; cy < y + h; cy++) {
                for (int cx = inY ? x : x + 1; cx < x + w; cx++) {
                    int before = inY ? p.get(cx, cy - 1) : p.get(cx - 1, cy);
                    addPair(inY ? cy : cx, Math.abs(p.get(cx, cy) - before));
                }
            }
            return steepest();
        }

        private void addPair(int place, int step) {
            int offset = Math.floorMod(place, BLOCK);
            steps[offset] += step;
            pairs[offset]++;
        }

        /** An offset without pairs has no step to be compared, so it is passed over. */
        private int steepest() {
            int best = NONE;
            for (int i = 0; i < BLOCK; i++) {
                if (pairs[i] > 0 && (best == NONE || steps[i] * pairs[best] > steps[best] * pairs[i])) {
                    best = i;
                }
            }
            return best;
        }
    }

    /** Pieces of the latest picture that was searched which are there twice. */
    static final class Twins {
        private final boolean[] corners = new boolean[MOST_SIDE * MOST_SIDE];
        private final int[] firstPair = new int[4];
        private int side;
        int pairs;

        void search(Picture p, int k, int t) {
            side = k;
            pairs = 0;
            for (int i = 0; i < corners.length; i++) {
                corners[i] = false;
            }
            for (int y = 0; y + k <= p.height; y++) {
                for (int x = 0; x + k <= p.width; x++) {
                    if (!isFlat(p, x, y)) {
                        searchBehind(p, x, y, t);
                    }
                }
            }
        }

        /** Of the first pair, by what is asked: 1, 2 the first piece's x, y, 3, 4 the second's. */
        int ofFirstPair(int what) {
            return pairs > 0 && within(what, 1, firstPair.length) ? firstPair[what - 1] : NONE;
        }

        boolean touch(int blockX, int blockY) {
            for (int y = Math.max(0, blockY - side + 1); y < Math.min(MOST_SIDE, blockY + BLOCK); y++) {
                for (int x = Math.max(0, blockX - side + 1); x < Math.min(MOST_SIDE, blockX + BLOCK); x++) {
                    if (corners[y * MOST_SIDE + x]) {
                        return true;
                    }
                }
            }
            return false;
        }

        private boolean isFlat(Picture p, int x, int y) {
            int first = p.get(x, y);
            for (int cy = y; cy < y + side; cy++) {
                for (int cx = x; cx < x + side; cx++) {
                    if (p.get(cx, cy) != first) {
                        return false;
                    }
                }
            }
            return true;
        }

        private void searchBehind(Picture p, int x, int y, int t) {
            for (int oy = y; oy + side <= p.height; oy++) {
                for (int ox = oy == y ? x + 1 : 0; ox + side <= p.width; ox++) {
                    boolean apart = Math.abs(ox - x) >= side || oy - y >= side;
                    if (apart && isNear(p, x, y, ox, oy, t)) {
                        addPair(x, y, ox, oy);
                    }
                }
            }
        }

        private boolean isNear(Picture p, int x, int y, int ox, int oy, int t) {
            for (int dy = 0; dy < side; dy++) {
                for (int dx = 0; dx < side; dx++) {
                    if (Math.abs(p.get(x + dx, y + dy) - p.get(ox + dx, oy + dy)) > t) {
                        return false;
                    }
                }
            }
            return true;
        }

        private void addPair(int x, int y, int ox, int oy) {
            if (pairs == 0) {
                firstPair[0] = x;
                firstPair[1] = y;
                firstPair[2] = ox;
                firstPair[3] = oy;
            }
            pairs++;
            markCorner(x, y);
            markCorner(ox, oy);
        }

        private void markCorner(int x, int y) {
            if (within(x, 0, MOST_SIDE - 1) && within(y, 0, MOST_SIDE - 1)) {
                corners[y * MOST_SIDE + x] = true;
            }
        }
    }

    /** By how much one picture lies nearest to another one. */
    static final class Shift {
        private static final int FARTHEST_SHIFT = 3;

        int dx;
        int dy;
        int apart;
        int cells;

        void findNearest(Picture p, Picture q) {
            cells = 0;
            for (int y = -FARTHEST_SHIFT; y <= FARTHEST_SHIFT; y++) {
                for (int x = -FARTHEST_SHIFT; x <= FARTHEST_SHIFT; x++) {
                    tryShift(p, q, x, y);
                }
            }
        }

        private void tryShift(Picture p, Picture q, int x, int y) {
            int common = Math.max(0, p.width - Math.abs(x)) * Math.max(0, p.height - Math.abs(y));
            int sum = sumApart(p, q, x, y);
            boolean nearer = cells == 0 || sum * cells < apart * common;
            if (common > 0 && nearer) {
                dx = x;
                dy = y;
                apart = sum;
                cells = common;
            }
        }

        private static int sumApart(Picture p, Picture q, int x, int y) {
            int sum = 0;
            for (int cy = Math.max(0, -y); cy < Math.min(p.height, p.height - y); cy++) {
                for (int cx = Math.max(0, -x); cx < Math.min(p.width, p.width - x); cx++) {
                    sum += Math.abs(p.get(cx, cy) - q.get(cx + x, cy + y));
                }
            }
            return sum;
        }

        int countBeyond(Picture p, Picture q, int t) {
            int beyond = 0;
            for (int cy = 0; cy < p.height; cy++) {
                for (int cx = 0; cx < p.width; cx++) {
                    boolean both = q.has(cx + dx, cy + dy);
                    if (both && Math.abs(p.get(cx, cy) - q.get(cx + dx, cy + dy)) > t) {
                        beyond++;
                    }
                }
            }
            return beyond;
        }
    }

    /**
     * A text that has been read: its acts in their order, each with its numbers in slots, and the sums of
     * its paints as code for a stack: a number or a name is put on it, a deed takes from it and puts there.
     */
    static final class Program {
        static final int MOST_ACTS = 16;
        static final int PASTE = 1;
        static final int PAINT = 2;
        static final int KEEP = 3;
        static final int FLIP = 4;
        static final int REPEAT = 5;

        static final int SLOTS = 7;
        static final int SUM_FROM = 4;
        static final int SUM_TO = 5;
        static final int ROUNDS = 0;
        static final int BODY_END = 1;

        // Code: a number is itself, a name is its place behind the numbers, a deed comes behind the names.
        static final int GREATEST_NUMBER = 999;
        static final int FIRST_NAME = GREATEST_NUMBER + 1;
        static final int LIGHT = 0;
        static final int X = 1;
        static final int Y = 2;
        static final int LEFT = 3;
        static final int UP = 4;
        static final int ROUND = 5;
        static final int NAMES = 6;
        static final int ADD = FIRST_NAME + NAMES;
        static final int TAKE = ADD + 1;
        static final int TIMES = ADD + 2;
        static final int BY = ADD + 3;
        static final int TURN = ADD + 4;

        private final int[] kinds = new int[MOST_ACTS];
        private final int[] numbers = new int[MOST_ACTS * SLOTS];
        private final int[] code = new int[MOST_BYTES];
        int acts;
        int codeLength;

        void clear() {
            acts = 0;
            codeLength = 0;
        }

        /** The act's place; NONE if there is no room. */
        int addAct(int kind) {
            if (!within(acts, 0, MOST_ACTS - 1)) {
                return NONE;
            }
            kinds[acts] = kind;
            acts++;
            return acts - 1;
        }

        int kindOf(int act) {
            return within(act, 0, MOST_ACTS - 1) ? kinds[act] : NONE;
        }

        void setNumber(int act, int slot, int v) {
            if (within(act, 0, MOST_ACTS - 1) && within(slot, 0, SLOTS - 1)) {
                numbers[act * SLOTS + slot] = v;
            }
        }

        int numberOf(int act, int slot) {
            boolean known = act >= 0 && act < MOST_ACTS && slot >= 0 && slot < SLOTS;
            return known ? numbers[act * SLOTS + slot] : 0;
        }

        void addCode(int c) {
            if (within(codeLength, 0, MOST_BYTES - 1)) {
                code[codeLength] = c;
                codeLength++;
            }
        }

        int codeAt(int place) {
            return place >= 0 && place < MOST_BYTES ? code[place] : 0;
        }
    }

    /** The tape, and what reads it token by token into a program, up to its first fault. */
    static final class Reader {
        private static final int CANNOT_STAND = 1;
        private static final int WRONG_NUMBER = 2;
        private static final int TOO_DEEP = 3;
        private static final int TOO_MANY_ACTS = 4;
        private static final int MOST_OPEN = 8;

        // A sign's kind is its own byte, so the other kinds are numbers that no sign has.
        private static final int END = 0;
        private static final int WORD = 1;
        private static final int NUMBER = 2;
        private static final int STRANGE = 3;

        private final int[] tape = new int[MOST_BYTES];
        int length;
        private int place;
        private int tokenKind;
        private int tokenStart;
        private int tokenValue;
        private Program program;
        boolean anyRead;
        int fault;
        int faultPlace = NONE;

        /** Four bytes, the highest first. */
        void append(int word) {
            for (int down = 24; down >= 0; down -= 8) {
                if (within(length, 0, tape.length - 1)) {
                    tape[length] = word >>> down & 255;
                    length++;
                }
            }
        }

        void read(Program into) {
            anyRead = true;
            place = 0;
            fault = 0;
            faultPlace = NONE;
            program = into;
            program.clear();
            advance();
            readActs(0, false);
        }

        private boolean refuse(int why) {
            fault = why;
            faultPlace = tokenStart;
            return false;
        }

        private int byteAt(int at) {
            return at >= 0 && at < length && at < tape.length ? tape[at] : NONE;
        }

        /** Goes to the next token; past the last one is the end, at the length. */
        private void advance() {
            while (place < length && isBlank(byteAt(place))) {
                place++;
            }
            tokenStart = place;
            int first = byteAt(place);
            if (place >= length) {
                tokenKind = END;
            } else if (isLetter(first)) {
                tokenKind = WORD;
                while (place < length && isLetter(byteAt(place))) {
                    place++;
                }
            } else if (isDigit(first)) {
                tokenKind = NUMBER;
                tokenValue = 0;
                while (place < length && isDigit(byteAt(place))) {
                    // No further up than it takes to be refused, as a number may be of any length.
                    tokenValue = Math.min(Program.GREATEST_NUMBER + 1, tokenValue * 10 + byteAt(place) - '0');
                    place++;
                }
            } else {
                tokenKind = isSign(first) ? first : STRANGE;
                place++;
            }
        }

        private static boolean isBlank(int b) {
            return b == ' ' || b == '\n';
        }

        private static boolean isLetter(int b) {
            return b >= 'a' && b <= 'z' || b >= 'A' && b <= 'Z';
        }

        private static boolean isDigit(int b) {
            return b >= '0' && b <= '9';
        }

        private static boolean isSign(int b) {
            boolean deed = b == '+' || b == '-' || b == '*' || b == '/';
            return deed || b == '(' || b == ')' || b == '{' || b == '}' || b == ';';
        }

        private boolean isWord(String word) {
            if (tokenKind != WORD || place - tokenStart != word.length()) {
                return false;
            }
            for (int i = 0; i < word.length(); i++) {
                if (byteAt(tokenStart + i) != word.charAt(i)) {
                    return false;
                }
            }
            return true;
        }

        private boolean readActs(int open, boolean inRepeat) {
            for (int i = 0; i <= Program.MOST_ACTS; i++) {
                if (tokenKind == (inRepeat ? '}' : END)) {
                    return true;
                }
                if (!readAct(open)) {
                    return false;
                }
            }
            return refuse(TOO_MANY_ACTS);
        }

        private boolean readAct(int open) {
            int kind = actKind();
            if (kind == NONE) {
                return refuse(CANNOT_STAND);
            }
            int act = program.addAct(kind);
            if (act == NONE) {
                return refuse(TOO_MANY_ACTS);
            }
            advance();
            switch (kind) {
                case Program.PASTE:
                    return readPaste(act);
                case Program.PAINT:
                    return readPaint(act, open);
                case Program.KEEP:
                    return readKeep(act);
                case Program.FLIP:
                    return readField(act, 0) && pass(';');
                default:
                    return readRepeat(act, open);
            }
        }

        private int actKind() {
            if (isWord("paste")) {
                return Program.PASTE;
            }
            if (isWord("paint")) {
                return Program.PAINT;
            }
            if (isWord("keep")) {
                return Program.KEEP;
            }
            if (isWord("flip")) {
                return Program.FLIP;
            }
            return isWord("repeat") ? Program.REPEAT : NONE;
        }

        private boolean readPaste(int act) {
            if (!readNumber(act, 0, 0, PICTURES - 1) || !readField(act, 1)) {
                return false;
            }
            if (!isWord("to")) {
                return refuse(CANNOT_STAND);
            }
            advance();
            return readNumber(act, 5, 0, 99) && readNumber(act, 6, 0, 99) && pass(';');
        }

        private boolean readPaint(int act, int open) {
            if (!readField(act, 0)) {
                return false;
            }
            program.setNumber(act, Program.SUM_FROM, program.codeLength);
            if (!readSum(open)) {
                return false;
            }
            program.setNumber(act, Program.SUM_TO, program.codeLength);
            return pass(';');
        }

        private boolean readKeep(int act) {
            boolean all = readNumber(act, 0, 2, 50) && readNumber(act, 1, 0, 99) && readNumber(act, 2, 0, 99);
            return all && pass(';');
        }

        private boolean readRepeat(int act, int open) {
            if (!readNumber(act, Program.ROUNDS, 1, 9) || !passOpening('{', open)) {
                return false;
            }
            if (!readActs(open + 1, true)) {
                return false;
            }
            program.setNumber(act, Program.BODY_END, program.acts);
            return pass('}');
        }

        private boolean readField(int act, int slot) {
            boolean corner = readNumber(act, slot, 0, 99) && readNumber(act, slot + 1, 0, 99);
            return corner && readNumber(act, slot + 2, 1, 99) && readNumber(act, slot + 3, 1, 99);
        }

        private boolean readNumber(int act, int slot, int low, int high) {
            if (tokenKind != NUMBER) {
                return refuse(CANNOT_STAND);
            }
            if (!within(tokenValue, low, high)) {
                return refuse(WRONG_NUMBER);
            }
            program.setNumber(act, slot, tokenValue);
            advance();
            return true;
        }

        private boolean pass(char sign) {
            if (tokenKind != sign) {
                return refuse(CANNOT_STAND);
            }
            advance();
            return true;
        }

        private boolean passOpening(char sign, int open) {
            if (tokenKind != sign) {
                return refuse(CANNOT_STAND);
            }
            if (open >= MOST_OPEN) {
                return refuse(TOO_DEEP);
            }
            advance();
            return true;
        }

        private boolean readSum(int open) {
            if (!readProduct(open)) {
                return false;
            }
            for (int i = 0; i < MOST_BYTES && (tokenKind == '+' || tokenKind == '-'); i++) {
                int deed = tokenKind == '+' ? Program.ADD : Program.TAKE;
                advance();
                if (!readProduct(open)) {
                    return false;
                }
                program.addCode(deed);
            }
            return true;
        }

        private boolean readProduct(int open) {
            if (!readOne(open)) {
                return false;
            }
            for (int i = 0; i < MOST_BYTES && (tokenKind == '*' || tokenKind == '/'); i++) {
                int deed = tokenKind == '*' ? Program.TIMES : Program.BY;
                advance();
                if (!readOne(open)) {
                    return false;
                }
                program.addCode(deed);
            }
            return true;
        }

        private boolean readOne(int open) {
            switch (tokenKind) {
                case NUMBER:
                    return passPlainNumber();
                case WORD:
                    return passName(nameOfWord());
                case '(':
                    return passOpening('(', open) && readSum(open + 1) && pass(')');
                case '-':
                    return readTurned(open);
                default:
                    return refuse(CANNOT_STAND);
            }
        }

        private boolean readTurned(int open) {
            if (!passOpening('-', open) || !readOne(open + 1)) {
                return false;
            }
            program.addCode(Program.TURN);
            return true;
        }

        private boolean passPlainNumber() {
            if (tokenValue > Program.GREATEST_NUMBER) {
                return refuse(WRONG_NUMBER);
            }
            program.addCode(tokenValue);
            advance();
            return true;
        }

        private boolean passName(int name) {
            if (name == NONE) {
                return refuse(CANNOT_STAND);
            }
            program.addCode(Program.FIRST_NAME + name);
            advance();
            return true;
        }

        private int nameOfWord() {
            if (isWord("light")) {
                return Program.LIGHT;
            }
            if (isWord("x")) {
                return Program.X;
            }
            if (isWord("y")) {
                return Program.Y;
            }
            if (isWord("left")) {
                return Program.LEFT;
            }
            if (isWord("up")) {
                return Program.UP;
            }
            return isWord("round") ? Program.ROUND : NONE;
        }
    }

    /** Does a program to a picture. */
    static final class Doer {
        private static final int MOST_DONE = 300;
        private static final int MOST_NESTED = 8;
        private static final int MOST_STACKED = 64;
        private static final int GREATEST = 1000000;

        private final Picture source;
        private final int[] stack = new int[MOST_STACKED];
        private final int[] names = new int[Program.NAMES];
        private Program program;
        private Picture target;
        private State state;
        private int done;

        Doer(int w, int h) {
            source = new Picture(w, h);
        }

        /** How many acts were done. */
        int perform(Program what, Picture to, State among) {
            if (what == null || to == null || among == null) {
                return NONE;
            }
            program = what;
            target = to;
            state = among;
            done = 0;
            performActs(0, program.acts, 0, 0);
            return done;
        }

        private void performActs(int first, int behind, int round, int nested) {
            int next = first;
            while (next < behind && done < MOST_DONE) {
                int act = next;
                next++;
                done++;
                switch (program.kindOf(act)) {
                    case Program.PASTE:
                        paste(act);
                        break;
                    case Program.PAINT:
                        paint(act, round);
                        break;
                    case Program.KEEP:
                        keep(act);
                        break;
                    case Program.FLIP:
                        flip(act);
                        break;
                    default:
                        next = Math.max(next, program.numberOf(act, Program.BODY_END));
                        repeat(act, next, nested);
                        break;
                }
            }
        }

        private void repeat(int act, int behind, int nested) {
            if (nested >= MOST_NESTED) {
                return;
            }
            int rounds = program.numberOf(act, Program.ROUNDS);
            for (int i = 0; i < rounds && done < MOST_DONE; i++) {
                performActs(act + 1, behind, i, nested + 1);
            }
        }

        private void paste(int act) {
            // The picture itself may be the source, and is pasted as it was ahead of this act.
            source.become(state.picture(program.numberOf(act, 0)));
            int fromX = program.numberOf(act, 1);
            int fromY = program.numberOf(act, 2);
            int w = Math.min(program.numberOf(act, 3), source.width - fromX);
            int h = Math.min(program.numberOf(act, 4), source.height - fromY);
            int toX = program.numberOf(act, 5);
            int toY = program.numberOf(act, 6);
            for (int dy = 0; dy < h; dy++) {
                for (int dx = 0; dx < w; dx++) {
                    target.put(toX + dx, toY + dy, source.get(fromX + dx, fromY + dy));
                }
            }
        }

        private void paint(int act, int round) {
            int left = program.numberOf(act, 0);
            int top = program.numberOf(act, 1);
            int right = Math.min(left + program.numberOf(act, 2), target.width);
            int bottom = Math.min(top + program.numberOf(act, 3), target.height);
            int from = program.numberOf(act, Program.SUM_FROM);
            int behind = program.numberOf(act, Program.SUM_TO);
            names[Program.ROUND] = round;
            for (int y = top; y < bottom; y++) {
                for (int x = left; x < right; x++) {
                    int sum = sumAt(x, y, from, behind);
                    target.put(x, y, Math.max(0, Math.min(BRIGHTEST, sum)));
                }
            }
        }

        private void keep(int act) {
            int n = program.numberOf(act, 0);
            int left = Math.floorMod(program.numberOf(act, 1), BLOCK);
            int top = Math.floorMod(program.numberOf(act, 2), BLOCK);
            int right = left + Math.floorDiv(target.width - left, BLOCK) * BLOCK;
            int bottom = top + Math.floorDiv(target.height - top, BLOCK) * BLOCK;
            for (int y = top; y < bottom; y++) {
                for (int x = left; x < right; x++) {
                    target.put(x, y, nearestMultiple(target.get(x, y), n));
                }
            }
        }

        private static int nearestMultiple(int v, int n) {
            if (n <= 0) {
                return v;
            }
            int over = v % n;
            int lower = v - over;
            return 2 * over > n ? Math.min(BRIGHTEST, lower + n) : lower;
        }

        private void flip(int act) {
            int left = program.numberOf(act, 0);
            int top = program.numberOf(act, 1);
            int right = Math.min(left + program.numberOf(act, 2), target.width);
            int bottom = Math.min(top + program.numberOf(act, 3), target.height);
            for (int y = top; y < bottom; y++) {
                for (int i = 0; i < (right - left) / 2; i++) {
                    int v = target.get(left + i, y);
                    target.put(left + i, y, target.get(right - 1 - i, y));
                    target.put(right - 1 - i, y, v);
                }
            }
        }

        private int sumAt(int x, int y, int from, int behind) {
            names[Program.LIGHT] = target.get(x, y);
            names[Program.X] = x;
            names[Program.Y] = y;
            names[Program.LEFT] = target.get(x - 1, y);
            names[Program.UP] = target.get(x, y - 1);
            int stacked = 0;
            for (int i = from; i < behind; i++) {
                int code = program.codeAt(i);
                if (code < Program.ADD) {
                    if (stacked < MOST_STACKED) {
                        stack[stacked] = code < Program.FIRST_NAME ? code : names[code - Program.FIRST_NAME];
                        stacked++;
                    }
                } else if (code == Program.TURN) {
                    if (stacked >= 1) {
                        stack[stacked - 1] = -stack[stacked - 1];
                    }
                } else if (stacked >= 2) {
                    stacked--;
                    stack[stacked - 1] = reckon(code, stack[stacked - 1], stack[stacked]);
                }
            }
            return stack[0];
        }

        private static int reckon(int deed, int first, int second) {
            long answer = 0;
            if (deed == Program.ADD) {
                answer = first + second;
            } else if (deed == Program.TAKE) {
                answer = first - second;
            } else if (deed == Program.TIMES) {
                answer = (long) first * second;
            } else if (second != 0) {
                answer = first / second;
            }
            return (int) Math.max(-GREATEST, Math.min(GREATEST, answer));
        }
    }

    /** Finds the shortest story from a picture to another one, and how many are as short. */
    static final class Teller {
        private final Picture[] before = new Picture[MOST_STORY];
        private final int[] told = new int[MOST_STORY];
        private final int[] first = new int[MOST_STORY];
        private Picture hero;
        private Picture goal;
        private State state;
        private Program[] programs;
        private Doer doer;
        int length;
        int count;

        Teller(int w, int h) {
            for (int i = 0; i < MOST_STORY; i++) {
                before[i] = new Picture(w, h);
            }
        }

        /** The picture is worked on itself, as pastes may take from it, and is put back each time. */
        void findShortest(Picture from, Picture to, State among, Program[] texts, Doer by) {
            hero = from;
            goal = to;
            state = among;
            programs = texts;
            doer = by;
            count = 0;
            for (int i = 0; i <= MOST_STORY; i++) {
                length = i;
                tell(0);
                if (count > 0) {
                    return;
                }
            }
            length = NONE;
        }

        int textOf(int i) {
            return within(i, 0, Math.min(length, MOST_STORY) - 1) ? first[i] : NONE;
        }

        private void tell(int done) {
            if (done >= length || done >= MOST_STORY) {
                judge();
                return;
            }
            Picture start = before[done];
            if (start == null) {
                return;
            }
            start.become(hero);
            for (int i = 0; i < Math.min(state.texts, programs.length); i++) {
                told[done] = i;
                tellOn(i, done);
                hero.become(start);
            }
        }

        private void tellOn(int text, int done) {
            if (within(text, 0, programs.length - 1)) {
                doer.perform(programs[text], hero, state);
                tell(done + 1);
            }
        }

        private void judge() {
            if (!hero.isAs(goal)) {
                return;
            }
            if (count == 0) {
                System.arraycopy(told, 0, first, 0, MOST_STORY);
            }
            count++;
        }
    }
}
