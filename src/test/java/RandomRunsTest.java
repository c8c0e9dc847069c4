import java.lang.reflect.Method;
import java.util.Arrays;
import java.util.Random;

/** Runs of 512 drawn calls each (of fixed seeds), every answer held against the model's. */
public final class RandomRunsTest {
    private static final int RUNS = 700;
    private static final int CALLS = 512;

    private final Random random;
    private final TwoSuns suns;
    private final Model model;
    private final Due due;
    private final int run;

    private RandomRunsTest(int run, Due due) {
        this.run = run;
        this.due = due;
        random = new Random(run * 7919L + 13);
        int w = draw(4, 12);
        int h = draw(4, 12);
        suns = new TwoSuns(w, h);
        model = new Model(w, h);
    }

    public static void main(String[] args) throws Exception {
        Due due = new Due("random runs");
        for (int run = 0; run < RUNS; run++) {
            new RandomRunsTest(run, due).go();
        }
        due.finish();
    }

    private void go() throws Exception {
        for (int left = CALLS; left > 0;) {
            left -= step();
        }
    }

    /** Makes one or more calls and says how many. */
    private int step() throws Exception {
        switch (draw(0, 31)) {
            case 0: return call("light", picture(), x(), y(), off(0, 99));
            case 1: return call("row", picture(), x(), y(), figures());
            case 2: return call("at", picture(), x(), y());
            case 3: return call("copy", picture(), picture());
            case 4: return shadow();
            case 5: return random.nextInt(3) == 0 ? call("shine", off(0, 7)) : 1;
            case 6: return call("lamps", set(), draw(-2, 30));
            case 7: return call("fight", set(), off(0, 2));
            case 8: return random.nextInt(8) == 0 ? random.nextInt(6) == 0 ? call("suns", set(), draw(-2, 3)) : sunsOf() : 1;
            case 9: return random.nextInt(3) == 0 ? line() : 1;
            case 10: return random.nextInt(3) == 0 ? call("meet", off(0, 9), off(0, 3)) : 1;
            case 11: return call("rough", picture(), x(), y(), off(1, 6), off(1, 6));
            case 12: return call("grain", picture(), off(2, 9), random.nextBoolean() ? off(0, 2) : off(100, 109));
            case 13: return call("squares", picture(), draw(-1, 5), draw(-1, 5), off(4, 12), off(4, 12), random.nextBoolean());
            case 14: return random.nextInt(3) == 0 ? call("twice", picture(), off(2, 6), off(0, 9), off(0, 4)) : 1;
            case 15: return call("two", picture(), picture(), random.nextBoolean() ? off(0, 3) : off(100, 199));
            case 16: return call("feed", anyInt(), anyInt(), anyInt(), anyInt(), anyInt());
            case 17: return call("end", off(0, 300));
            case 18:
            case 19:
            case 20: return read();
            case 21: return call("fault", off(0, 1));
            case 22:
            case 23: return act();
            case 24: return random.nextInt(4) == 0 ? call("story", picture(), picture(), draw(-3, 3)) : 1;
            case 25: return call("maker", off(0, 3), off(0, 9));
            case 26: return call("habit", off(0, 3), off(0, 5), off(1, 99));
            case 27: return random.nextInt(4) == 0 ? call("wane", off(0, 100)) : call("about", draw(-1, 14));
            case 28: return call("odds", off(0, 3), random.nextBoolean() ? 0 : off(0, 50), off(0, 63));
            case 29: return random.nextInt(2) == 0 ? call("say", picture(), draw(-1, 9), off(2, 6), off(0, 9)) : 1;
            case 30: return random.nextInt(12) == 0 ? call("image") : scene();
            default: return random.nextInt(12) == 0 ? call("back") : storyOf();
        }
    }

    /** Mostly one that a lamp of this run's few throws, so that signs agree, fight and need some suns. */
    private int shadow() throws Exception {
        if (random.nextInt(8) == 0) {
            return call("shadow", off(1, 99), off(-99, 99), off(-99, 99), off(1, 300), off(1, 300), off(0, 20));
        }
        Model.Lamp lamp = Model.LAMPS.get((run * 31 + 97 * random.nextInt(1 + run % 4)) % Model.LAMPS.size());
        int high = draw(1, 60);
        int low = draw(1, 200);
        int most = draw(low, Math.min(300, low + random.nextInt(60)));
        int f = draw(low, most);
        int ex = -lamp.dx() * high * f / (100 * lamp.h());
        int ey = -lamp.dy() * high * f / (100 * lamp.h());
        return call("shadow", high, ex, ey, low, most, draw(0, 4));
    }

    private int sunsOf() throws Exception {
        int set = set();
        int calls = call("suns", set, -1);
        for (int i = 0; i < 3; i++) {
            calls += call("suns", set, i);
        }
        return calls;
    }

    private int line() throws Exception {
        return call("line", off(-99, 99), off(-99, 99), off(-99, 99), off(-99, 99));
    }

    /** A picture of few lights, so that pieces are there twice and pictures are near one another. */
    private int scene() throws Exception {
        int picture = draw(0, 4);
        int lights = draw(1, 4);
        int scale = draw(1, 30);
        int calls = 0;
        for (int y = 0; y < model.h; y++) {
            for (int x = 0; x < model.w; x += 8) {
                long figures = 0;
                for (int i = 0; i < 8; i++) {
                    figures = figures * 100 + (long) random.nextInt(lights) * scale % 100;
                }
                calls += call("row", picture, x, y, figures);
            }
        }
        return calls;
    }

    /** Makes a picture by texts out of another one and asks for its story. */
    private int storyOf() throws Exception {
        int from = draw(0, 4);
        int to = draw(0, 4);
        int calls = call("copy", from, to);
        for (int i = draw(0, 3); i > 0 && !model.all.texts.isEmpty(); i--) {
            calls += call("act", draw(0, model.all.texts.size() - 1), to);
        }
        for (int i = -2; i <= 3; i++) {
            calls += call("story", from, to, i);
        }
        return calls;
    }

    private int act() throws Exception {
        int text = random.nextInt(10) == 0 ? draw(-1, 6) : draw(0, Math.max(0, model.all.texts.size() - 1));
        return call("act", text, picture());
    }

    private int read() throws Exception {
        if (model.all.texts.size() == 6 && random.nextInt(8) != 0) {
            return 1;
        }
        String text = new TextMaker(random).text();
        int calls = call("end", 0);
        for (int at = 0; at < text.length(); at += 20) {
            Object[] words = new Object[5];
            for (int i = 0; i < 5; i++) {
                int word = 0;
                for (int j = 0; j < 4; j++) {
                    int place = at + 4 * i + j;
                    word = word << 8 | (place < text.length() ? text.charAt(place) & 255 : 0);
                }
                words[i] = word;
            }
            calls += call("feed", words);
        }
        return calls + call("end", text.length()) + call("text") + call("fault", 0) + call("fault", 1);
    }

    private int call(String name, Object... args) throws Exception {
        long got = answer(TwoSuns.class, suns, name, args);
        long want = answer(Model.class, model, name, args);
        due.due("run " + run + ", " + name + Arrays.toString(args), got, want);
        return 1;
    }

    private static long answer(Class<?> type, Object object, String name, Object[] args) throws Exception {
        for (Method method : type.getDeclaredMethods()) {
            if (method.getName().equals(name) && method.getParameterCount() == args.length) {
                Object answer = method.invoke(object, args);
                return answer instanceof Boolean b ? (b ? 1 : 0) : ((Number) answer).longValue();
            }
        }
        throw new IllegalStateException(name);
    }

    private int draw(int low, int high) {
        return low + random.nextInt(high - low + 1);
    }

    /** Mostly of a range, now and then just beyond it or far off. */
    private int off(int low, int high) {
        switch (random.nextInt(24)) {
            case 0: return low - 1;
            case 1: return high + 1;
            case 2: return low;
            case 3: return high;
            case 4: return random.nextInt(6) == 0 ? anyInt() : low;
            default: return draw(low, high);
        }
    }

    private int anyInt() {
        int[] edges = {Integer.MIN_VALUE, Integer.MAX_VALUE, -1, 0, 1};
        return random.nextBoolean() ? edges[random.nextInt(edges.length)] : random.nextInt();
    }

    private int picture() {
        return random.nextInt(30) == 0 ? off(0, 4) : draw(0, 4);
    }

    private int x() {
        return off(0, model.w - 1);
    }

    private int y() {
        return off(0, model.h - 1);
    }

    private long figures() {
        long[] edges = {-1L, 0L, 9999999999999999L, 10000000000000000L, Long.MIN_VALUE, Long.MAX_VALUE};
        return random.nextInt(5) == 0 ? edges[random.nextInt(edges.length)] : (random.nextLong() >>> 1) % 10000000000000000L;
    }

    private int set() {
        int told = (1 << model.all.shadows.size()) - 1 | ((1 << model.all.shines.size()) - 1) << 12;
        switch (random.nextInt(12)) {
            case 0: return told;
            case 1: return 0;
            case 2: return told | 1 << draw(0, 31);
            case 3: return anyInt();
            default: return told & random.nextInt();
        }
    }
}
