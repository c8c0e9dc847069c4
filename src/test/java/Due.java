/** What the tests of the project share: answers that are due, and texts put on the tape. */
final class Due {
    private final String promise;
    private int checks = 0;
    private int wrong = 0;

    Due(String promise) {
        this.promise = promise;
    }

    void due(String call, long got, long want) {
        checks++;
        if (got != want) {
            wrong++;
            if (wrong <= 40) {
                System.out.println(promise + ": " + call + " answered " + got + ", due is " + want);
            }
        }
    }

    void due(String call, boolean got, boolean want) {
        due(call, got ? 1 : 0, want ? 1 : 0);
    }

    void holds(String what, boolean so) {
        due(what, so, true);
    }

    /** Ends the program with 1 if an answer was not the one that is due. */
    void finish() {
        System.out.println(promise + ": " + checks + " answers, " + wrong + " wrong");
        if (wrong != 0 || checks == 0) {
            System.exit(1);
        }
    }

    /** Puts bytes (characters 0 .. 255) behind an emptied tape; -1 if they don't fit. */
    static int put(TwoSuns suns, String text) {
        suns.end(0);
        for (int at = 0; at < text.length(); at += 20) {
            int[] words = new int[5];
            for (int i = 0; i < 20; i++) {
                int b = at + i < text.length() ? text.charAt(at + i) & 255 : 0;
                words[i / 4] = words[i / 4] << 8 | b;
            }
            if (suns.feed(words[0], words[1], words[2], words[3], words[4]) < 0) {
                return -1;
            }
        }
        return suns.end(text.length());
    }

    static int read(TwoSuns suns, String text) {
        put(suns, text);
        return suns.text();
    }

    /** A row's light from its left end on, two figures each. */
    static void fill(TwoSuns suns, int picture, int y, int... lights) {
        for (int x = 0; x < lights.length; x++) {
            suns.light(picture, x, y, lights[x]);
        }
    }

    static String shown(TwoSuns suns, int picture) {
        StringBuilder all = new StringBuilder();
        for (int y = 0; y < suns.about(1); y++) {
            for (int x = 0; x < suns.about(0); x++) {
                all.append(suns.at(picture, x, y)).append(x + 1 < suns.about(0) ? " " : "/");
            }
        }
        return all.toString();
    }
}
