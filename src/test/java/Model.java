import java.util.ArrayList;
import java.util.Arrays;
import java.util.List;

/**
 * The document once more, as plainly and slowly as it reads, to hold the class against: brute force where
 * the class reckons, trees of objects where it has code, whole copies where its image has numbers alone.
 */
final class Model {
    /** A fault of a text, on its way out of the reading. */
    static final class Fault extends RuntimeException {
        final int kind;
        final int place;

        Fault(int kind, int place) {
            super(null, null, false, false);
            this.kind = kind;
            this.place = place;
        }
    }

    record Token(char kind, String word, int place) { }

    record Shadow(int high, int ex, int ey, int low, int most, int side) { }

    record Lamp(int dx, int dy, int h) {
        int code() {
            return 10000 * h + 100 * (dy + 5) + dx + 5;
        }
    }

    interface Sum {
        long of(int[][] picture, int x, int y, int round);
    }

    static final class Act {
        String word;
        int[] numbers = new int[7];
        Sum sum;
        List<Act> body;
    }

    static final class All {
        int[][][] pictures;
        List<Shadow> shadows = new ArrayList<>();
        List<Integer> shines = new ArrayList<>();
        List<int[]> lines = new ArrayList<>();
        List<List<Act>> texts = new ArrayList<>();
        int[] weights = new int[4];
        int[][] habits = new int[4][6];
        int wane = 90;

        All copied() {
            All c = new All();
            c.pictures = new int[5][][];
            for (int i = 0; i < 5; i++) {
                c.pictures[i] = copyOf(pictures[i]);
            }
            c.shadows.addAll(shadows);
            c.shines.addAll(shines);
            c.lines.addAll(lines);
            c.texts.addAll(texts);
            c.weights = weights.clone();
            for (int i = 0; i < 4; i++) {
                c.habits[i] = habits[i].clone();
            }
            c.wane = wane;
            return c;
        }
    }

    static final List<Lamp> LAMPS = new ArrayList<>();

    static {
        for (int h = 1; h <= 6; h++) {
            for (int dy = -5; dy <= 5; dy++) {
                for (int dx = -5; dx <= 5; dx++) {
                    LAMPS.add(new Lamp(dx, dy, h));
                }
            }
        }
    }

    final int w;
    final int h;
    All all = new All();
    All image;
    StringBuilder tape = new StringBuilder();
    boolean anyRead;
    int fault;
    int faultPlace = -1;

    Model(int w, int h) {
        this.w = w < 4 ? 4 : w > 12 ? 12 : w;
        this.h = h < 4 ? 4 : h > 12 ? 12 : h;
        all.pictures = new int[5][this.h][this.w];
        for (int[] habits : all.habits) {
            Arrays.fill(habits, 50);
        }
        image = all.copied();
    }

    static int[][] copyOf(int[][] picture) {
        int[][] c = new int[picture.length][];
        for (int y = 0; y < picture.length; y++) {
            c[y] = picture[y].clone();
        }
        return c;
    }

    static boolean in(long v, long low, long high) {
        return low <= v && v <= high;
    }

    boolean cell(int picture, int x, int y) {
        return in(picture, 0, 4) && in(x, 0, w - 1) && in(y, 0, h - 1);
    }

    boolean field(int picture, int x, int y, long fw, long fh) {
        return cell(picture, x, y) && fw >= 1 && fh >= 1 && x + fw <= w && y + fh <= h;
    }

    boolean light(int picture, int x, int y, int v) {
        if (!cell(picture, x, y) || !in(v, 0, 99)) {
            return false;
        }
        all.pictures[picture][y][x] = v;
        return true;
    }

    int row(int picture, int x, int y, long figures) {
        if (!cell(picture, x, y) || !in(figures, 0, 9999999999999999L)) {
            return -1;
        }
        String s = String.format("%016d", figures);
        int n = 0;
        while (n < 8 && x + n < w) {
            all.pictures[picture][y][x + n] = Integer.parseInt(s.substring(14 - 2 * n, 16 - 2 * n));
            n++;
        }
        return n;
    }

    int at(int picture, int x, int y) {
        return cell(picture, x, y) ? all.pictures[picture][y][x] : -1;
    }

    boolean copy(int from, int to) {
        if (!in(from, 0, 4) || !in(to, 0, 4)) {
            return false;
        }
        all.pictures[to] = copyOf(all.pictures[from]);
        return true;
    }

    int shadow(int high, int ex, int ey, int low, int most, int side) {
        if (!in(high, 1, 99) || !in(ex, -99, 99) || !in(ey, -99, 99) || !in(low, 1, 300) || !in(most, 1, 300)
                || low > most || !in(side, 0, 20) || all.shadows.size() == 12) {
            return -1;
        }
        all.shadows.add(new Shadow(high, ex, ey, low, most, side));
        return all.shadows.size() - 1;
    }

    int shine(int point) {
        if (!in(point, 0, 7) || all.shines.size() == 8) {
            return -1;
        }
        all.shines.add(point);
        return all.shines.size() - 1;
    }

    static boolean lets(Shadow s, Lamp l) {
        for (int f = s.low; f <= s.most; f++) {
            long offX = Math.abs(100L * l.h * s.ex + (long) l.dx * s.high * f);
            long offY = Math.abs(100L * l.h * s.ey + (long) l.dy * s.high * f);
            if (offX <= 100L * l.h * s.side && offY <= 100L * l.h * s.side) {
                return true;
            }
        }
        return false;
    }

    static boolean lets(int point, Lamp l) {
        if (l.dx == 0 && l.dy == 0) {
            return true;
        }
        int a = Math.abs(l.dx);
        int b = Math.abs(l.dy);
        int sx = 2 * a < b ? 0 : Integer.signum(l.dx);
        int sy = 2 * b < a ? 0 : Integer.signum(l.dy);
        int[][] signs = {{1, 0}, {1, -1}, {0, -1}, {-1, -1}, {-1, 0}, {-1, 1}, {0, 1}, {1, 1}};
        for (int azimuth = 0; azimuth < 8; azimuth++) {
            if (signs[azimuth][0] == sx && signs[azimuth][1] == sy) {
                int off = Math.abs(azimuth - point);
                return Math.min(off, 8 - off) <= 1;
            }
        }
        throw new IllegalStateException();
    }

    boolean told(int set) {
        for (int bit = 0; bit < 32; bit++) {
            boolean known = bit < 12 ? bit < all.shadows.size() : bit - 12 < all.shines.size();
            if ((set >> bit & 1) == 1 && !known) {
                return false;
            }
        }
        return true;
    }

    int letting(int set, Lamp l) {
        int bits = 0;
        for (int bit = 0; bit < 20; bit++) {
            if ((set >> bit & 1) == 1 && (bit < 12 ? lets(all.shadows.get(bit), l) : lets(all.shines.get(bit - 12), l))) {
                bits |= 1 << bit;
            }
        }
        return bits;
    }

    int lamps(int set, int i) {
        if (!told(set) || i < -1) {
            return -1;
        }
        List<Lamp> let = new ArrayList<>();
        for (Lamp l : LAMPS) {
            if (letting(set, l) == set) {
                let.add(l);
            }
        }
        return i == -1 ? let.size() : i < let.size() ? let.get(i).code() : -1;
    }

    int fight(int set, int what) {
        if (!told(set) || !in(what, 0, 2)) {
            return -1;
        }
        Lamp best = null;
        for (Lamp l : LAMPS) {
            if (best == null || Integer.bitCount(letting(set, l)) > Integer.bitCount(letting(set, best))) {
                best = l;
            }
        }
        int bits = letting(set, best);
        return what == 0 ? best.code() : what == 1 ? Integer.bitCount(bits) : set - bits;
    }

    int suns(int set, int i) {
        if (!told(set) || i < -1) {
            return -1;
        }
        int[] suns = fewest(set);
        if (suns == null) {
            return -1;
        }
        return i == -1 ? suns.length : i < suns.length ? LAMPS.get(suns[i]).code() : -1;
    }

    private int[] fewest(int set) {
        if (set == 0) {
            return new int[0];
        }
        int n = LAMPS.size();
        int[] m = new int[n];
        for (int a = 0; a < n; a++) {
            m[a] = letting(set, LAMPS.get(a));
        }
        for (int a = 0; a < n; a++) {
            if (m[a] == set) {
                return new int[] {a};
            }
        }
        for (int a = 0; a < n; a++) {
            for (int b = 0; b < n; b++) {
                if ((m[a] | m[b]) == set) {
                    return new int[] {a, b};
                }
            }
        }
        for (int a = 0; a < n; a++) {
            for (int b = a; b < n; b++) {
                for (int c = b; c < n; c++) {
                    if ((m[a] | m[b] | m[c]) == set) {
                        return new int[] {a, b, c};
                    }
                }
            }
        }
        return null;
    }

    int line(int ax, int ay, int bx, int by) {
        if (!in(ax, -99, 99) || !in(ay, -99, 99) || !in(bx, -99, 99) || !in(by, -99, 99)
                || ax == bx && ay == by || all.lines.size() == 10) {
            return -1;
        }
        all.lines.add(new int[] {ax, ay, bx, by});
        return all.lines.size() - 1;
    }

    int meet(int slack, int what) {
        if (!in(slack, 0, 9) || !in(what, 0, 3) || all.lines.isEmpty()) {
            return -1000;
        }
        int[] best = null;
        for (int y = -40; y <= 40; y++) {
            for (int x = -40; x <= 40; x++) {
                int missing = 0;
                for (int i = 0; i < all.lines.size(); i++) {
                    int[] l = all.lines.get(i);
                    int ux = l[2] - l[0];
                    int uy = l[3] - l[1];
                    int cross = ux * (y - l[1]) - uy * (x - l[0]);
                    missing |= Math.abs(cross) <= slack * (Math.abs(ux) + Math.abs(uy)) ? 0 : 1 << i;
                }
                int count = all.lines.size() - Integer.bitCount(missing);
                if (best == null || count > best[2]) {
                    best = new int[] {x, y, count, missing};
                }
            }
        }
        return best[what];
    }

    int rough(int picture, int x, int y, int fw, int fh) {
        if (!field(picture, x, y, fw, fh)) {
            return -1;
        }
        int[][] p = all.pictures[picture];
        int sum = 0;
        for (int cy = y; cy < y + fh; cy++) {
            for (int cx = x; cx + 1 < x + fw; cx++) {
                sum += Math.abs(p[cy][cx] - p[cy][cx + 1]);
            }
        }
        for (int cx = x; cx < x + fw; cx++) {
            for (int cy = y; cy + 1 < y + fh; cy++) {
                sum += Math.abs(p[cy][cx] - p[cy + 1][cx]);
            }
        }
        return sum;
    }

    int[] blockRoughs(int picture) {
        List<Integer> roughs = new ArrayList<>();
        for (int y = 0; y + 4 <= h; y += 4) {
            for (int x = 0; x + 4 <= w; x += 4) {
                roughs.add(rough(picture, x, y, 4, 4));
            }
        }
        return roughs.stream().mapToInt(Integer::intValue).toArray();
    }

    int grain(int picture, int t, int what) {
        if (!in(picture, 0, 4) || !in(t, 2, 99)) {
            return -1;
        }
        int[] roughs = blockRoughs(picture);
        int[] sorted = roughs.clone();
        Arrays.sort(sorted);
        int median = sorted[sorted.length % 2 == 0 ? sorted.length / 2 - 1 : sorted.length / 2];
        int odd = 0;
        for (int r : roughs) {
            odd += r * t < median || median * t < r ? 1 : 0;
        }
        if (in(what, 100, 99 + roughs.length)) {
            int r = roughs[what - 100];
            return r * t < median || median * t < r ? 1 : 0;
        }
        return what == 0 ? roughs.length : what == 1 ? median : what == 2 ? odd : -1;
    }

    int squares(int picture, int x, int y, int fw, int fh, boolean inY) {
        if (!field(picture, x, y, fw, fh) || fw < 4 || fh < 4) {
            return -1;
        }
        int best = -1;
        double most = -1;
        for (int o = 0; o < 4; o++) {
            int step = 0;
            int pairs = 0;
            for (int cy = y; cy < y + fh; cy++) {
                for (int cx = x; cx < x + fw; cx++) {
                    if (inY && cy > y && cy % 4 == o) {
                        step += Math.abs(at(picture, cx, cy) - at(picture, cx, cy - 1));
                        pairs++;
                    }
                    if (!inY && cx > x && cx % 4 == o) {
                        step += Math.abs(at(picture, cx, cy) - at(picture, cx - 1, cy));
                        pairs++;
                    }
                }
            }
            // Rounded the same way for equal fractions, so that like ones are like.
            if (pairs > 0 && (double) step / pairs > most) {
                most = (double) step / pairs;
                best = o;
            }
        }
        return best;
    }

    List<int[]> twins(int picture, int k, int t) {
        int[][] p = all.pictures[picture];
        List<int[]> pairs = new ArrayList<>();
        for (int a = 0; a < w * h; a++) {
            for (int b = a + 1; b < w * h; b++) {
                int ax = a % w;
                int ay = a / w;
                int bx = b % w;
                int by = b / w;
                if (ax + k > w || ay + k > h || bx + k > w || by + k > h) {
                    continue;
                }
                boolean near = true;
                boolean flat = true;
                boolean common = false;
                for (int i = 0; i < k * k; i++) {
                    int cx = i % k;
                    int cy = i / k;
                    near &= Math.abs(p[ay + cy][ax + cx] - p[by + cy][bx + cx]) <= t;
                    flat &= p[ay + cy][ax + cx] == p[ay][ax];
                    common |= in(ax + cx, bx, bx + k - 1) && in(ay + cy, by, by + k - 1);
                }
                if (near && !flat && !common) {
                    pairs.add(new int[] {ax, ay, bx, by});
                }
            }
        }
        return pairs;
    }

    int twice(int picture, int k, int t, int what) {
        if (!in(picture, 0, 4) || !in(k, 2, 6) || !in(t, 0, 9) || !in(what, 0, 4)) {
            return -1;
        }
        List<int[]> pairs = twins(picture, k, t);
        return what == 0 ? pairs.size() : pairs.isEmpty() ? -1 : pairs.get(0)[what - 1];
    }

    int two(int one, int other, int what) {
        if (!in(one, 0, 4) || !in(other, 0, 4) || !in(what, 0, 3) && !in(what, 100, 199)) {
            return -1000;
        }
        int[] best = null;
        for (int dy = -3; dy <= 3; dy++) {
            for (int dx = -3; dx <= 3; dx++) {
                int sum = 0;
                int cells = 0;
                int beyond = 0;
                for (int y = 0; y < h; y++) {
                    for (int x = 0; x < w; x++) {
                        if (cell(other, x + dx, y + dy)) {
                            int off = Math.abs(at(one, x, y) - at(other, x + dx, y + dy));
                            sum += off;
                            cells++;
                            beyond += what >= 100 && off > what - 100 ? 1 : 0;
                        }
                    }
                }
                if (best == null || (long) sum * best[3] < (long) best[2] * cells) {
                    best = new int[] {dx, dy, sum, cells, beyond};
                }
            }
        }
        return what >= 100 ? best[4] : best[what];
    }

    int feed(int a, int b, int c, int d, int e) {
        if (tape.length() + 20 > 300) {
            return -1;
        }
        for (int word : new int[] {a, b, c, d, e}) {
            tape.append((char) (word >>> 24)).append((char) (word >> 16 & 255));
            tape.append((char) (word >> 8 & 255)).append((char) (word & 255));
        }
        return tape.length();
    }

    int end(int n) {
        if (!in(n, 0, tape.length())) {
            return -1;
        }
        tape.setLength(n);
        return n;
    }

    int text() {
        if (all.texts.size() == 6) {
            return -1;
        }
        anyRead = true;
        String bytes = tape.toString();
        tape.setLength(0);
        try {
            all.texts.add(new Parser(bytes).whole());
            fault = 0;
            faultPlace = -1;
            return all.texts.size() - 1;
        } catch (Fault f) {
            fault = f.kind;
            faultPlace = f.place;
            return -1;
        }
    }

    int fault(int what) {
        return !anyRead ? -1 : what == 0 ? fault : what == 1 ? faultPlace : -1;
    }

    /** Splits the bytes first, then goes over the tokens with a list of what is open. */
    static final class Parser {
        final List<Token> tokens = new ArrayList<>();
        int next = 0;
        int acts = 0;
        int open = 0;

        Parser(String s) {
            int i = 0;
            while (i < s.length()) {
                char c = s.charAt(i);
                int j = i + 1;
                if (c == 32 || c == 10) {
                    i++;
                    continue;
                }
                char kind = "+-*/(){};".indexOf(c) >= 0 ? c : '?';
                if (letter(c)) {
                    kind = 'w';
                    while (j < s.length() && letter(s.charAt(j))) {
                        j++;
                    }
                } else if (c >= '0' && c <= '9') {
                    kind = 'n';
                    while (j < s.length() && s.charAt(j) >= '0' && s.charAt(j) <= '9') {
                        j++;
                    }
                }
                tokens.add(new Token(kind, s.substring(i, j), i));
                i = j;
            }
            tokens.add(new Token('.', "", s.length()));
        }

        static boolean letter(char c) {
            return c >= 'a' && c <= 'z' || c >= 'A' && c <= 'Z';
        }

        Token see() {
            return tokens.get(next);
        }

        Token take(boolean stands) {
            Token t = see();
            if (!stands) {
                throw new Fault(1, t.place);
            }
            next++;
            return t;
        }

        boolean word(String... words) {
            return see().kind == 'w' && Arrays.asList(words).contains(see().word);
        }

        int number(int low, int high) {
            Token t = take(see().kind == 'n');
            java.math.BigInteger v = new java.math.BigInteger(t.word);
            if (v.bitLength() > 30 || !in(v.intValue(), low, high)) {
                throw new Fault(2, t.place);
            }
            return v.intValue();
        }

        void opening(char sign) {
            Token t = take(see().kind == sign);
            open++;
            if (open > 8) {
                throw new Fault(3, t.place);
            }
        }

        List<Act> whole() {
            List<Act> list = new ArrayList<>();
            while (see().kind != '.') {
                list.add(act());
            }
            return list;
        }

        Act act() {
            Token t = take(word("paste", "paint", "keep", "flip", "repeat"));
            acts++;
            if (acts > 16) {
                throw new Fault(4, t.place);
            }
            Act a = new Act();
            a.word = t.word;
            int[] n = a.numbers;
            int[][] ranges = switch (t.word) {
                case "paste" -> new int[][] {{0, 4}, {0, 99}, {0, 99}, {1, 99}, {1, 99}};
                case "keep" -> new int[][] {{2, 50}, {0, 99}, {0, 99}};
                case "repeat" -> new int[][] {{1, 9}};
                default -> new int[][] {{0, 99}, {0, 99}, {1, 99}, {1, 99}};
            };
            for (int i = 0; i < ranges.length; i++) {
                n[i] = number(ranges[i][0], ranges[i][1]);
            }
            if (t.word.equals("repeat")) {
                opening('{');
                a.body = new ArrayList<>();
                while (see().kind != '}') {
                    a.body.add(act());
                }
                next++;
                open--;
                return a;
            }
            if (t.word.equals("paste")) {
                take(word("to"));
                n[5] = number(0, 99);
                n[6] = number(0, 99);
            }
            if (t.word.equals("paint")) {
                a.sum = sum();
            }
            take(see().kind == ';');
            return a;
        }

        static long held(long v) {
            return v > 1000000 ? 1000000 : v < -1000000 ? -1000000 : v;
        }

        Sum sum() {
            Sum left = product();
            while (see().kind == '+' || see().kind == '-') {
                boolean plus = take(true).kind == '+';
                Sum a = left;
                Sum b = product();
                left = (p, x, y, r) -> held(plus ? a.of(p, x, y, r) + b.of(p, x, y, r) : a.of(p, x, y, r) - b.of(p, x, y, r));
            }
            return left;
        }

        Sum product() {
            Sum left = one();
            while (see().kind == '*' || see().kind == '/') {
                boolean times = take(true).kind == '*';
                Sum a = left;
                Sum b = one();
                left = (p, x, y, r) -> {
                    long u = a.of(p, x, y, r);
                    long v = b.of(p, x, y, r);
                    return held(times ? u * v : v == 0 ? 0 : u / v);
                };
            }
            return left;
        }

        Sum one() {
            if (see().kind == 'n') {
                long v = number(0, 999);
                return (p, x, y, r) -> v;
            }
            if (see().kind == '(') {
                opening('(');
                Sum s = sum();
                take(see().kind == ')');
                open--;
                return s;
            }
            if (see().kind == '-') {
                opening('-');
                Sum s = one();
                open--;
                return (p, x, y, r) -> -s.of(p, x, y, r);
            }
            String name = take(word("light", "x", "y", "left", "up", "round")).word;
            return switch (name) {
                case "light" -> (p, x, y, r) -> p[y][x];
                case "x" -> (p, x, y, r) -> x;
                case "y" -> (p, x, y, r) -> y;
                case "left" -> (p, x, y, r) -> x == 0 ? 0 : p[y][x - 1];
                case "up" -> (p, x, y, r) -> y == 0 ? 0 : p[y - 1][x];
                default -> (p, x, y, r) -> r;
            };
        }
    }

    /** Does acts to the picture of a number among pictures, and says how many of 300 were done by then. */
    int perform(List<Act> acts, int[][][] pictures, int number, int round, int done) {
        for (Act a : acts) {
            if (done == 300) {
                return done;
            }
            done++;
            int[] n = a.numbers;
            int[][] p = pictures[number];
            switch (a.word) {
                case "repeat":
                    for (int r = 0; r < n[0]; r++) {
                        done = perform(a.body, pictures, number, r, done);
                    }
                    break;
                case "paste":
                    int[][] source = copyOf(pictures[n[0]]);
                    for (int i = 0; i < n[3]; i++) {
                        for (int j = 0; j < n[4]; j++) {
                            if (cell(0, n[1] + i, n[2] + j) && cell(0, n[5] + i, n[6] + j)) {
                                p[n[6] + j][n[5] + i] = source[n[2] + j][n[1] + i];
                            }
                        }
                    }
                    break;
                case "paint":
                    for (int y = n[1]; y < n[1] + n[3]; y++) {
                        for (int x = n[0]; x < n[0] + n[2]; x++) {
                            if (cell(0, x, y)) {
                                p[y][x] = (int) Math.max(0, Math.min(99, a.sum.of(p, x, y, round)));
                            }
                        }
                    }
                    break;
                case "keep":
                    for (int y = n[2] % 4; y + 4 <= h; y += 4) {
                        for (int x = n[1] % 4; x + 4 <= w; x += 4) {
                            for (int i = 0; i < 16; i++) {
                                p[y + i / 4][x + i % 4] = nearest(p[y + i / 4][x + i % 4], n[0]);
                            }
                        }
                    }
                    break;
                default:
                    int[][] was = copyOf(p);
                    for (int y = n[1]; y < Math.min(h, n[1] + n[3]); y++) {
                        for (int x = n[0]; x < Math.min(w, n[0] + n[2]); x++) {
                            p[y][x] = was[y][n[0] + Math.min(w, n[0] + n[2]) - 1 - x];
                        }
                    }
                    break;
            }
        }
        return done;
    }

    static int nearest(int v, int n) {
        int best = 0;
        for (int m = 0; m <= 150; m += n) {
            if (Math.abs(m - v) < Math.abs(best - v)) {
                best = m;
            }
        }
        return Math.min(99, best);
    }

    int act(int text, int picture) {
        if (!in(text, 0, all.texts.size() - 1) || !in(picture, 0, 4)) {
            return -1;
        }
        return perform(all.texts.get(text), all.pictures, picture, 0, 0);
    }

    int story(int from, int to, int i) {
        if (!in(from, 0, 4) || !in(to, 0, 4) || i < -2) {
            return -1;
        }
        int texts = all.texts.size();
        for (int length = 0, ways = 1; length <= 3; length++, ways *= texts) {
            int found = 0;
            int[] first = null;
            for (int way = 0; way < ways; way++) {
                int[] story = new int[length];
                for (int at = length - 1, rest = way; at >= 0; at--, rest /= texts) {
                    story[at] = rest % texts;
                }
                int[][][] pictures = all.copied().pictures;
                for (int text : story) {
                    perform(all.texts.get(text), pictures, from, 0, 0);
                }
                if (Arrays.deepEquals(pictures[from], all.pictures[to])) {
                    first = found == 0 ? story : first;
                    found++;
                }
            }
            if (found > 0) {
                return i == -2 ? found : i == -1 ? length : i < length ? first[i] : -1;
            }
        }
        return -1;
    }

    boolean maker(int maker, int weight) {
        if (!in(maker, 0, 3) || !in(weight, 0, 9)) {
            return false;
        }
        all.weights[maker] = weight;
        return true;
    }

    boolean habit(int maker, int habit, int v) {
        if (!in(maker, 0, 3) || !in(habit, 0, 5) || !in(v, 1, 99)) {
            return false;
        }
        all.habits[maker][habit] = v;
        return true;
    }

    boolean wane(int v) {
        if (!in(v, 0, 100)) {
            return false;
        }
        all.wane = v;
        return true;
    }

    long chance(int maker, int year, int has) {
        long chance = all.weights[maker];
        for (int i = 0; i < 6; i++) {
            int off = all.habits[maker][i] - 50;
            int size = Math.abs(off);
            for (int y = 0; y < year; y++) {
                size = size * all.wane / 100;
            }
            int now = off < 0 ? 50 - size : 50 + size;
            chance *= (has & 1 << i) != 0 ? now : 100 - now;
        }
        return chance;
    }

    int odds(int maker, int year, int has) {
        if (!in(maker, 0, 3) || !in(year, 0, 50) || !in(has, 0, 63)) {
            return -1;
        }
        long sum = 0;
        for (int m = 0; m < 4; m++) {
            sum += chance(m, year, has);
        }
        return sum == 0 ? -1 : (int) (chance(maker, year, has) * 1000 / sum);
    }

    int say(int picture, int block, int k, int t) {
        if (!in(picture, 0, 4) || !in(block, 0, (w / 4) * (h / 4) - 1) || !in(k, 2, 6) || !in(t, 0, 9)) {
            return -1;
        }
        int left = block % (w / 4) * 4;
        int top = block / (w / 4) * 4;
        for (int[] pair : twins(picture, k, t)) {
            for (int i = 0; i < k * k; i++) {
                for (int piece = 0; piece < 4; piece += 2) {
                    int x = pair[piece] + i % k;
                    int y = pair[piece + 1] + i / k;
                    if (in(x, left, left + 3) && in(y, top, top + 3)) {
                        return 2;
                    }
                }
            }
        }
        return grain(picture, 3, 100 + block);
    }

    int image() {
        image = all.copied();
        return all.texts.size();
    }

    int back() {
        all = image.copied();
        return all.texts.size();
    }

    int about(int what) {
        int[] answers = {w, h, all.shadows.size(), all.shines.size(), all.lines.size(), all.texts.size(), tape.length(), all.wane};
        return in(what, 0, 7) ? answers[what] : in(what, 10, 13) ? all.weights[what - 10] : -1;
    }
}
