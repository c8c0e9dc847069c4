import java.lang.management.ManagementFactory;
import java.util.Random;

/** Calls with any arguments in any state: none throws, and none makes objects once its own has been made. */
public final class AnyArgumentsTest {
    private static final int RUNS = 400;
    private static final int CALLS = 512;
    private static final int MOST_BYTES_OF_A_RUN = 4096;
    private static final int[] EDGES = {
        Integer.MIN_VALUE, Integer.MIN_VALUE + 1, -1001, -1000, -100, -99, -2, -1, 0, 1, 2, 3, 4, 5, 6, 7, 8, 9, 10, 11, 12, 13,
        20, 21, 50, 51, 63, 64, 99, 100, 101, 107, 108, 109, 199, 200, 300, 301, 4095, 4096, 1 << 19, 1 << 20, -1 << 20,
        Integer.MAX_VALUE - 1, Integer.MAX_VALUE};
    private static final long[] LONG_EDGES = {
        Long.MIN_VALUE, -1L, 0L, 1L, 99L, 1020304050607L, 9999999999999999L, 10000000000000000L, Long.MAX_VALUE};

    private final Random random;
    private final TwoSuns s;

    private AnyArgumentsTest(int seed) {
        random = new Random(seed);
        s = new TwoSuns(any(), any());
    }

    public static void main(String[] args) {
        Due due = new Due("any arguments");
        com.sun.management.ThreadMXBean threads = (com.sun.management.ThreadMXBean) ManagementFactory.getThreadMXBean();
        // What the machine itself makes at first is not the class's.
        new AnyArgumentsTest(-1).go();
        threads.getThreadAllocatedBytes(Thread.currentThread().getId());
        for (int run = 0; run < RUNS; run++) {
            AnyArgumentsTest test = new AnyArgumentsTest(run);
            test.fillUp(run);
            long before = threads.getThreadAllocatedBytes(Thread.currentThread().getId());
            test.go();
            long made = threads.getThreadAllocatedBytes(Thread.currentThread().getId()) - before;
            due.due("run " + run + " made " + made + " bytes; few enough", made <= MOST_BYTES_OF_A_RUN, true);
        }
        longest(due);
        due.finish();
    }

    /** A state in which every kind of thing is there, to its limit in some runs. */
    private void fillUp(int run) {
        TextMaker maker = new TextMaker(random);
        for (int i = 0; i < run % 13; i++) {
            s.shadow(1 + random.nextInt(99), random.nextInt(199) - 99, random.nextInt(199) - 99, 1, 300, random.nextInt(21));
            s.shine(i % 8);
            s.line(random.nextInt(199) - 99, random.nextInt(199) - 99, 99, i);
            s.row(i % 5, 0, i % 4, random.nextLong() >>> 12);
            Due.read(s, maker.text());
            s.maker(i % 4, i % 10);
        }
        s.feed(any(), any(), any(), any(), any());
    }

    private void go() {
        for (int i = 0; i < CALLS; i++) {
            call(random.nextInt(31));
        }
    }

    private int any() {
        return random.nextInt(8) == 0 ? random.nextInt() : EDGES[random.nextInt(EDGES.length)];
    }

    /** Small ones, so that some calls are let in. */
    private int few() {
        return random.nextInt(6) == 0 ? any() : random.nextInt(5);
    }

    private void call(int which) {
        switch (which) {
            case 0: s.light(few(), few(), few(), any()); break;
            case 1: s.row(few(), few(), few(), LONG_EDGES[random.nextInt(LONG_EDGES.length)]); break;
            case 2: s.at(few(), few(), few()); break;
            case 3: s.copy(few(), few()); break;
            case 4: s.shadow(few(), any(), any(), few(), any(), few()); break;
            case 5: s.shine(few()); break;
            case 6: s.lamps(any(), any()); break;
            case 7: s.fight(any(), few()); break;
            case 8: s.suns(any(), few()); break;
            case 9: s.line(any(), any(), any(), any()); break;
            case 10: s.meet(few(), few()); break;
            case 11: s.rough(few(), few(), few(), any(), any()); break;
            case 12: s.grain(few(), any(), any()); break;
            case 13: s.squares(few(), few(), few(), any(), any(), random.nextBoolean()); break;
            case 14: s.twice(few(), any(), any(), few()); break;
            case 15: s.two(few(), few(), any()); break;
            case 16: s.feed(any(), any(), any(), any(), any()); break;
            case 17: s.end(any()); break;
            case 18: s.text(); break;
            case 19: s.fault(few()); break;
            case 20: s.act(few(), few()); break;
            case 21: s.story(few(), few(), few()); break;
            case 22: s.maker(few(), few()); break;
            case 23: s.habit(few(), few(), any()); break;
            case 24: s.wane(any()); break;
            case 25: s.odds(few(), any(), any()); break;
            case 26: s.say(few(), few(), few(), few()); break;
            case 27: s.image(); break;
            case 28: s.back(); break;
            default: s.about(any()); break;
        }
    }

    /** The dearest story: six texts that each end at 300 acts, paint all they can and never reach the goal. */
    private static void longest(Due due) {
        TwoSuns s = new TwoSuns(12, 12);
        for (int i = 0; i < 6; i++) {
            Due.read(s, "repeat 9{repeat 9{repeat 9{paint 0 0 99 99 ((((x+1)*y+2)*3+light)/7+" + i + ");}}}");
        }
        s.light(1, 0, 0, 99);
        s.light(1, 1, 0, 1);
        due.due("no story", s.story(0, 1, -1), -1);
        due.due("the picture is as it was", s.at(0, 11, 11), 0);
    }
}
