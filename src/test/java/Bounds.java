/**
 * What the tests of boundary cases share. Each test names the sentence of the document that it holds; a number
 * is tried at its least and greatest, one to each side and at the ends of int; and behind a refused call all is
 * compared with an object that never had that call: what it is now, what its tape has and what its image has.
 */
final class Bounds {
    static final int MIN = Integer.MIN_VALUE;
    static final int MAX = Integer.MAX_VALUE;
    /** Cells of the pictures of busy and full objects. */
    static final int WIDTH = 5;
    static final int HEIGHT = 4;

    interface Call {
        long of(TwoSuns s);
    }

    interface Asked {
        long of(TwoSuns s, int v);
    }

    private final Due due;
    private String sentence = "";

    Bounds(String name) {
        due = new Due(name);
    }

    void sentence(String words) {
        sentence = words;
    }

    void due(String call, long got, long want) {
        due.due("'" + sentence + "': " + call, got, want);
    }

    void due(String call, boolean got, boolean want) {
        due(call, truth(got), truth(want));
    }

    void due(String call, String got, String want) {
        due("'" + sentence + "': " + call + " is " + got + ", due is " + want, got.equals(want), true);
    }

    void finish() {
        due.finish();
    }

    static long truth(boolean b) {
        return b ? 1 : 0;
    }

    /** Taken from least to greatest, and refused on either side with nothing changed. */
    void range(String what, int least, int greatest, long refusal, Asked call) {
        for (int v : new int[] {least, Math.min(least + 1, greatest), Math.max(greatest - 1, least), greatest}) {
            due(what + " " + v + " is taken", call.of(busy(), v) != refusal, true);
        }
        for (int v : new int[] {least - 1, greatest + 1, MIN, MAX}) {
            refused(what + " " + v, refusal, s -> call.of(s, v));
        }
    }

    /** As range, of a call that only asks: also where it is taken nothing has changed. */
    void asking(String what, int least, int greatest, long refusal, Asked call) {
        range(what, least, greatest, refusal, call);
        for (int v : new int[] {least, greatest}) {
            TwoSuns s = busy();
            call.of(s, v);
            unchanged(what + " " + v + " only asks", s, busy());
        }
    }

    /** Refused by an object that has some of each. */
    void refused(String what, long refusal, Call call) {
        TwoSuns s = busy();
        due(what + " is refused", call.of(s), refusal);
        unchanged(what, s, busy());
    }

    /** Refused by an object that has as many of each as there may be. */
    void refusedWhenFull(String what, long refusal, Call call) {
        TwoSuns s = full();
        due(what + " is refused", call.of(s), refusal);
        unchanged(what, s, full());
    }

    /** Both objects are used up by this: their tapes are read and they go back to their images. */
    void unchanged(String what, TwoSuns s, TwoSuns other) {
        due(what + ", and nothing has changed", allOf(s), allOf(other));
    }

    /** Some of each kind, a part of it in the image, a fault, and a text on the tape. */
    static TwoSuns busy() {
        TwoSuns s = new TwoSuns(WIDTH, HEIGHT);
        s.row(0, 0, 0, 5040302010L);
        s.row(1, 0, 3, 1122334455L);
        s.maker(0, 3);
        s.habit(0, 1, 70);
        s.wane(80);
        s.shadow(10, -10, 0, 100, 100, 0);
        s.shine(2);
        s.line(0, 0, 10, 0);
        Due.read(s, "paint 0 0 2 2 light+1;");
        s.image();
        s.row(2, 1, 1, 99887766L);
        s.light(4, 4, 3, 98);
        s.maker(1, 2);
        s.habit(1, 5, 20);
        s.wane(60);
        s.shadow(10, 0, 10, 100, 100, 1);
        s.shine(5);
        s.line(0, 5, 5, 0);
        Due.read(s, "flip 0 0 5 1;");
        Due.read(s, "flip 0 0 0 1;");
        Due.put(s, "keep 20 0 0;");
        return s;
    }

    /** As many as there may be, none of them in the image, and a text on the tape. */
    static TwoSuns full() {
        TwoSuns s = new TwoSuns(WIDTH, HEIGHT);
        for (int i = 0; i < 12; i++) {
            s.shadow(10, i - 6, 3, 1, 300, i % 4);
        }
        for (int i = 0; i < 8; i++) {
            s.shine(i);
        }
        for (int i = 0; i < 10; i++) {
            s.line(i, 0, 20, i);
        }
        for (int i = 0; i < 6; i++) {
            Due.read(s, "paint " + i + " 0 1 1 " + i + "+9;");
        }
        Due.put(s, "keep 20 0 0;");
        return s;
    }

    private static String allOf(TwoSuns s) {
        StringBuilder all = new StringBuilder();
        addAnswers(s, all);
        all.append(" read ").append(s.text()).append(' ').append(s.fault(0)).append(' ').append(s.fault(1));
        for (int text = 0; text < 6; text++) {
            all.append(' ').append(s.act(text, 3));
        }
        addPicture(s, 3, all);
        all.append(" back ").append(s.back());
        addAnswers(s, all);
        return all.toString();
    }

    private static void addAnswers(TwoSuns s, StringBuilder all) {
        for (int what = 0; what < 14; what++) {
            all.append(' ').append(s.about(what));
        }
        all.append(" fault ").append(s.fault(0)).append(' ').append(s.fault(1)).append(" signs");
        for (int bit = 0; bit < 20; bit++) {
            all.append(' ').append(s.lamps(1 << bit, -1));
        }
        all.append(" lines");
        for (int what = 0; what < 4; what++) {
            all.append(' ').append(s.meet(0, what)).append(' ').append(s.meet(9, what));
        }
        all.append(" odds");
        for (int maker = 0; maker < 4; maker++) {
            all.append(' ').append(s.odds(maker, 0, 21)).append(' ').append(s.odds(maker, 1, 42));
        }
        for (int picture = 0; picture < 5; picture++) {
            addPicture(s, picture, all);
        }
    }

    private static void addPicture(TwoSuns s, int picture, StringBuilder all) {
        all.append(" picture ").append(picture);
        for (int i = 0; i < WIDTH * HEIGHT; i++) {
            all.append(' ').append(s.at(picture, i % WIDTH, i / WIDTH));
        }
    }

    /** Whether a set of signs lets a lamp: lamps stand in the order of their names. */
    static boolean lets(TwoSuns s, int set, int lamp) {
        int low = 0;
        int high = s.lamps(set, -1) - 1;
        while (low <= high) {
            int middle = (low + high) / 2;
            int name = s.lamps(set, middle);
            if (name == lamp) {
                return true;
            }
            if (name < lamp) {
                low = middle + 1;
            } else {
                high = middle - 1;
            }
        }
        return false;
    }

    static int lamp(int dx, int dy, int h) {
        return 10000 * h + 100 * (dy + 5) + dx + 5;
    }
}
