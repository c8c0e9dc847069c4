/** The sentences of the document that name a boundary case of makers and images: promises 24 to 27 and 29 to 31, and their terms. */
public final class BoundsOfMakersTest {
    private static final int MIN = Bounds.MIN;
    private static final int MAX = Bounds.MAX;

    private final Bounds b = new Bounds("bounds of makers");

    public static void main(String[] args) {
        BoundsOfMakersTest t = new BoundsOfMakersTest();
        t.makers();
        t.odds();
        t.images();
        t.about();
        t.b.finish();
    }

    private void makers() {
        makerForOthers();
        weightsUpToNine();
        habitForOthers();
        habitsAtFirst();
        eachHabitIsItsOwn();
        waneForOthers();
        waneAtFirst();
    }

    private void odds() {
        oddsForOthers();
        withoutWeights();
        yearsThatWane();
        cutTowardsZero();
        greatestAndLeastWane();
        thousandthsCut();
        farthestOdds();
    }

    private void images() {
        imageAnswers();
        allIsSoAgain();
        theImageStays();
        tapeAndFaultAside();
        fullImage();
        emptyImage();
    }

    private void about() {
        aboutForOthers();
        aboutOfANewObject();
        aboutOfAFullOne();
    }

    private void makerForOthers() {
        b.sentence("A MAKER's WEIGHT: true. False for others");
        b.range("maker's maker", 0, 3, 0, (s, v) -> Bounds.truth(s.maker(v, 5)));
        b.range("maker's weight", 0, 9, 0, (s, v) -> Bounds.truth(s.maker(2, v)));
        b.refused("neither", 0, s -> Bounds.truth(s.maker(4, 10)));
    }

    private void weightsUpToNine() {
        b.sentence("MAKERS 0 .. 3: a WEIGHT (0 .. 9; at first 0)");
        TwoSuns s = new TwoSuns(4, 4);
        for (int maker = 0; maker < 4; maker++) {
            b.due("at first", s.about(10 + maker), 0);
        }
        for (int weight : new int[] {9, 8, 1, 0}) {
            for (int maker = 0; maker < 4; maker++) {
                b.due("taken", s.maker(maker, weight), true);
                b.due("the weight of " + maker, s.about(10 + maker), weight);
            }
        }
        for (int maker = 0; maker < 4; maker++) {
            s.maker(maker, maker + 1);
        }
        // Of 1 + 2 + 3 + 4.
        for (int maker = 0; maker < 4; maker++) {
            b.due("its own weight", s.odds(maker, 0, 0), 100 * (maker + 1));
        }
    }

    private void habitForOthers() {
        b.sentence("A HABIT: true. False for others");
        b.range("habit's maker", 0, 3, 0, (s, v) -> Bounds.truth(s.habit(v, 2, 33)));
        b.range("habit's habit", 0, 5, 0, (s, v) -> Bounds.truth(s.habit(2, v, 33)));
        b.range("habit's v", 1, 99, 0, (s, v) -> Bounds.truth(s.habit(2, 2, v)));
        b.refused("none of them", 0, s -> Bounds.truth(s.habit(4, 6, 100)));
    }

    private static TwoSuns twoMakers() {
        TwoSuns s = new TwoSuns(4, 4);
        s.maker(0, 1);
        s.maker(1, 1);
        return s;
    }

    private void habitsAtFirst() {
        b.sentence("HABITS 0 .. 5: hundredths (1 .. 99; at first 50)");
        for (int has = 0; has < 64; has++) {
            b.due("like odds of " + has, twoMakers().odds(0, 0, has), 500);
        }
        int[][] cases = {{1, 1000 / 51, 99000 / 149}, {2, 2000 / 52, 98000 / 148}, {49, 49000 / 99, 51000 / 101}, {50, 500, 500},
            {51, 51000 / 101, 49000 / 99}, {98, 98000 / 148, 2000 / 52}, {99, 99000 / 149, 1000 / 51}};
        for (int habit = 0; habit < 6; habit++) {
            for (int[] c : cases) {
                TwoSuns s = twoMakers();
                s.habit(0, habit, c[0]);
                b.due("habit " + habit + " of " + c[0] + ", has it", s.odds(0, 0, 1 << habit), c[1]);
                b.due("habit " + habit + " of " + c[0] + ", has all", s.odds(0, 0, 63), c[1]);
                b.due("habit " + habit + " of " + c[0] + ", has it not", s.odds(0, 0, 63 - (1 << habit)), c[2]);
                b.due("habit " + habit + " of " + c[0] + ", has none", s.odds(0, 0, 0), c[2]);
            }
        }
    }

    private void eachHabitIsItsOwn() {
        b.sentence("MAKERS 0 .. 3: a WEIGHT (0 .. 9; at first 0), HABITS 0 .. 5");
        for (int i = 0; i < 24; i++) {
            TwoSuns s = new TwoSuns(4, 4);
            for (int maker = 0; maker < 4; maker++) {
                s.maker(maker, 1);
            }
            s.habit(i / 6, i % 6, 99);
            for (int maker = 0; maker < 4; maker++) {
                for (int habit = 0; habit < 6; habit++) {
                    // 99, 50, 50, 50 where it is the habit asked, 1, 50, 50, 50 where it is not.
                    int all = habit == i % 6 ? 249 : 151;
                    int own = maker != i / 6 ? 50 : habit == i % 6 ? 99 : 1;
                    b.due("maker " + maker + " by habit " + habit, s.odds(maker, 0, 1 << habit), 1000 * own / all);
                }
            }
        }
    }

    private void waneForOthers() {
        b.sentence("WANE: true. False for others");
        b.range("wane's v", 0, 100, 0, (s, v) -> Bounds.truth(s.wane(v)));
    }

    private void waneAtFirst() {
        b.sentence("times WANE (0 .. 100; at first 90) / 100");
        TwoSuns s = twoMakers();
        b.due("at first", s.about(7), 90);
        s.habit(0, 0, 60);
        // 10 off is 9 off in a year.
        b.due("a year at first", s.odds(0, 1, 1), 59000 / 109);
        for (int v : new int[] {100, 99, 1, 0, 90}) {
            b.due("taken", s.wane(v), true);
            b.due("wane", s.about(7), v);
        }
        b.due("-1", s.wane(-1), false);
        b.due("101", s.wane(101), false);
        b.due("it stays", s.about(7), 90);
    }

    private void oddsForOthers() {
        b.sentence("ODDS of a MAKER in a YEAR (has 0 .. 63). NONE for others");
        b.asking("odds' maker", 0, 3, -1, (s, v) -> s.odds(v, 1, 5));
        b.asking("odds' has", 0, 63, -1, (s, v) -> s.odds(0, 1, v));
        b.sentence("In YEAR y (0 .. 50)");
        b.asking("odds' year", 0, 50, -1, (s, v) -> s.odds(0, v, 5));
        b.refused("none of them", -1, s -> s.odds(4, 51, 64));
    }

    private void withoutWeights() {
        b.sentence("NONE for others, and without WEIGHTS");
        for (int maker = 0; maker < 4; maker++) {
            TwoSuns s = new TwoSuns(4, 4);
            for (int i = 0; i < 4; i++) {
                b.due("without", s.odds(i, 0, 0), -1);
                b.due("without, later", s.odds(i, 50, 63), -1);
            }
            s.maker(maker, 1);
            for (int i = 0; i < 4; i++) {
                b.due("with one of " + maker + " that of " + i, s.odds(i, 0, 0), i == maker ? 1000 : 0);
            }
            s.maker(maker, 0);
            b.due("without again", s.odds(maker, 0, 0), -1);
            s.habit(maker, 0, 99);
            b.due("a habit is no weight", s.odds(maker, 0, 1), -1);
            s.maker(maker, 1);
            s.back();
            b.due("without behind a way back", s.odds(maker, 0, 0), -1);
        }
    }

    private void yearsThatWane() {
        b.sentence("In YEAR y (0 .. 50) a HABIT is y times nearer to 50");
        TwoSuns high = twoMakers();
        TwoSuns low = twoMakers();
        high.habit(0, 0, 99);
        low.habit(0, 0, 1);
        high.wane(99);
        low.wane(99);
        // Times 99 / 100, cut, what is off is one less each year: 49 in the year 0, 1 in the year 48, 0 from 49 on.
        for (int year = 0; year <= 50; year++) {
            int off = Math.max(0, 49 - year);
            b.due("99 in the year " + year, high.odds(0, year, 1), 1000 * (50 + off) / (100 + off));
            b.due("1 in the year " + year, low.odds(0, year, 1), 1000 * (50 - off) / (100 - off));
        }
        b.due("the year -1", high.odds(0, -1, 1), -1);
        b.due("the year 51", high.odds(0, 51, 1), -1);
    }

    private void cutTowardsZero() {
        b.sentence("what it is off 50, times WANE (0 .. 100; at first 90) / 100, cut towards 0");
        // Off by d, a year later by e: 1 * 90 / 100 is 0, 2 * 90 / 100 is 1, 10 * 90 / 100 is 9, 11 * 90 / 100 is 9.
        int[][] cases = {{0, 0}, {1, 0}, {2, 1}, {9, 8}, {10, 9}, {11, 9}, {12, 10}, {49, 44}};
        for (int[] c : cases) {
            for (int side = -1; side <= 1; side += 2) {
                TwoSuns s = twoMakers();
                s.habit(0, 3, 50 + side * c[0]);
                int then = 50 + side * c[1];
                b.due("off by " + side * c[0], s.odds(0, 1, 8), 1000 * then / (then + 50));
            }
        }
        // Cut each year: 49, 44, 39, 35, 31, and not 49 * 90^4 / 100^4, which is 32.
        TwoSuns s = twoMakers();
        s.habit(0, 3, 99);
        int[] offs = {49, 44, 39, 35, 31, 27, 24, 21, 18};
        for (int year = 0; year < offs.length; year++) {
            b.due("in the year " + year, s.odds(0, year, 8), 1000 * (50 + offs[year]) / (100 + offs[year]));
        }
    }

    private void greatestAndLeastWane() {
        b.sentence("WANE (0 .. 100");
        for (int habit : new int[] {1, 49, 51, 99}) {
            TwoSuns s = twoMakers();
            s.habit(0, 0, habit);
            int kept = 1000 * habit / (habit + 50);
            s.wane(100);
            b.due("100: as it was", s.odds(0, 50, 1), kept);
            s.wane(0);
            b.due("0: in the year 0 as it was", s.odds(0, 0, 1), kept);
            b.due("0: a year later 50", s.odds(0, 1, 1), 500);
            s.wane(1);
            b.due("1: a year later 50", s.odds(0, 1, 1), 500);
        }
        TwoSuns t = twoMakers();
        t.habit(0, 0, 52);
        t.wane(49);
        b.due("2 * 49 / 100 is 0", t.odds(0, 1, 1), 500);
        t.wane(50);
        b.due("2 * 50 / 100 is 1", t.odds(0, 1, 1), 51000 / 101);
    }

    private void thousandthsCut() {
        b.sentence("in thousandths of all MAKERS', cut");
        int[][] cases = {{1, 0, 1000}, {1, 1, 500}, {1, 2, 333}, {2, 1, 666}, {1, 6, 142}, {6, 1, 857}, {1, 9, 100}, {9, 1, 900}, {0, 9, 0}, {1, 7, 125}, {8, 9, 470}};
        for (int[] c : cases) {
            TwoSuns s = new TwoSuns(4, 4);
            s.maker(2, c[0]);
            s.maker(3, c[1]);
            b.due(c[0] + " of " + (c[0] + c[1]), s.odds(2, 0, 42), c[2]);
        }
    }

    private void farthestOdds() {
        b.sentence("WEIGHT * all HABITS (100 less those it has not)");
        TwoSuns s = new TwoSuns(4, 4);
        for (int maker = 0; maker < 4; maker++) {
            s.maker(maker, 9);
            for (int habit = 0; habit < 6; habit++) {
                s.habit(maker, habit, 99);
            }
        }
        b.due("the greatest, all alike", s.odds(3, 0, 63), 250);
        b.due("the least, all alike", s.odds(3, 0, 0), 250);
        TwoSuns t = new TwoSuns(4, 4);
        t.maker(0, 1);
        t.maker(1, 9);
        for (int habit = 0; habit < 6; habit++) {
            t.habit(0, habit, 1);
            t.habit(1, habit, 99);
        }
        b.due("1 of 1 + 9 * 99^6", t.odds(0, 0, 63), 0);
        b.due("9 * 99^6 of it, cut", t.odds(1, 0, 63), 999);
        b.due("99^6 of 99^6 + 9, cut", t.odds(0, 0, 0), 999);
        b.due("9 of it", t.odds(1, 0, 0), 0);
        t.maker(1, 0);
        b.due("1 of 1, the least there is", t.odds(0, 0, 63), 1000);
        b.due("0 of it", t.odds(1, 0, 63), 0);
        t.maker(1, 9);
        b.due("half and half", t.odds(0, 0, 7), 100);
        b.due("half and half of the other", t.odds(1, 0, 7), 900);
    }

    private void imageAnswers() {
        b.sentence("THE IMAGE is as all is now: how many TEXTS there are");
        TwoSuns s = new TwoSuns(4, 4);
        b.due("of a new object", s.image(), 0);
        for (int i = 0; i < 6; i++) {
            Due.read(s, "keep 2 0 0;");
            b.due("behind a text", s.image(), i + 1);
            b.due("back to it", s.back(), i + 1);
        }
        Due.read(s, "keep 2 0 0;");
        b.due("behind a seventh that is refused", s.image(), 6);
        b.due("a fault is no text", Due.read(new TwoSuns(4, 4), "@"), -1);
        TwoSuns t = Bounds.busy();
        b.due("of a busy one", t.image(), 2);
        TwoSuns other = Bounds.busy();
        other.image();
        t.image();
        b.unchanged("an image twice", t, other);
    }

    /** Changes all that can be changed, but the tape and the latest fault. */
    private static void changeAll(TwoSuns s) {
        for (int picture = 0; picture < 5; picture++) {
            s.row(picture, 0, picture % 4, 9080706050L);
            s.light(picture, 4, 3, 1 + picture);
        }
        for (int maker = 0; maker < 4; maker++) {
            s.maker(maker, 9 - maker);
            s.habit(maker, maker, 90);
        }
        s.wane(7);
        s.shadow(5, 5, 5, 5, 5, 5);
        s.shine(0);
        s.line(1, 2, 3, 4);
        s.act(0, 1);
        s.copy(1, 2);
    }

    private void allIsSoAgain() {
        b.sentence("BACK: all is so again");
        TwoSuns s = Bounds.busy();
        s.image();
        changeAll(s);
        b.due("back", s.back(), 2);
        TwoSuns other = Bounds.busy();
        other.image();
        b.unchanged("behind a way back", s, other);
        // With more texts too: then the tape and the fault are made as they were.
        TwoSuns t = Bounds.busy();
        t.image();
        changeAll(t);
        Due.read(t, "paint 0 0 1 1 50;");
        Due.read(t, "flip 0 0 5 1;");
        t.act(2, 0);
        Due.read(t, "flip 0 0 0 1;");
        Due.put(t, "keep 20 0 0;");
        b.due("back from four", t.back(), 2);
        TwoSuns like = Bounds.busy();
        like.image();
        b.unchanged("behind a way back from more texts", t, like);
    }

    private void theImageStays() {
        b.sentence("BACK to THE IMAGE (it stays): how many TEXTS there are");
        TwoSuns s = Bounds.busy();
        b.due("back", s.back(), 1);
        changeAll(s);
        b.due("back again", s.back(), 1);
        changeAll(s);
        b.due("and again", s.back(), 1);
        TwoSuns other = Bounds.busy();
        other.back();
        b.unchanged("as behind one way back", s, other);
        // A later image takes the place of it.
        TwoSuns t = new TwoSuns(4, 4);
        for (int v = 1; v <= 3; v++) {
            t.light(0, 0, 0, v);
            t.image();
            t.light(0, 0, 0, 99);
            t.back();
            b.due("the latest image", t.at(0, 0, 0), v);
        }
    }

    private void tapeAndFaultAside() {
        b.sentence("AN IMAGE: all as it is, but the tape and the latest FAULT");
        TwoSuns s = new TwoSuns(4, 4);
        Due.put(s, "keep 2 0 0;");
        s.image();
        s.end(4);
        s.back();
        b.due("a tape that was cut", s.about(6), 4);
        s.feed(0x20322030, 0x20303b20, 0x20202020, 0x20202020, 0x20202020);
        s.back();
        b.due("a tape that was fed", s.about(6), 24);
        b.due("it has both", s.text(), 0);
        s.back();
        b.due("an emptied tape", s.about(6), 0);
        b.due("the text is not there", s.about(5), 0);
        b.due("the latest one was fine", s.fault(0), 0);
        Due.read(s, " @");
        s.back();
        b.due("the latest fault", s.fault(0), 1);
        b.due("its place", s.fault(1), 1);
        s.image();
        Due.read(s, "");
        s.back();
        b.due("the latest was fine", s.fault(0), 0);
        b.due("without a place", s.fault(1), -1);
    }

    private void fullImage() {
        b.sentence("BACK: all is so again");
        TwoSuns s = Bounds.full();
        b.due("image", s.image(), 6);
        b.due("back", s.back(), 6);
        b.due("no room for a shadow", s.shadow(5, 5, 5, 5, 5, 5), -1);
        b.due("nor for a shine", s.shine(0), -1);
        b.due("nor for a line", s.line(1, 2, 3, 4), -1);
        b.due("nor for a text", s.text(), -1);
        TwoSuns other = Bounds.full();
        other.image();
        b.unchanged("as it was", s, other);
    }

    private void emptyImage() {
        b.sentence("THE IMAGE is this");
        TwoSuns s = Bounds.full();
        b.due("back to the new object", s.back(), 0);
        // What comes then takes the places of what was there, with nothing left of it.
        b.due("a first shadow", s.shadow(10, -10, 0, 100, 100, 0), 0);
        b.due("its lamps", s.lamps(1, -1), 5);
        b.due("a first shine", s.shine(7), 0);
        b.due("its lamps", s.lamps(1 << 12, -1), 6 * 44);
        b.due("a first line", s.line(7, 0, 7, 1), 0);
        b.due("where it goes", s.meet(0, 0), 7);
        b.due("a first text", s.text(), 0);
        b.due("its act", s.act(0, 0), 1);
        for (int bit = 1; bit < 20; bit++) {
            b.due("bit " + bit, s.lamps(1 << bit, -1), bit == 12 ? 6 * 44 : -1);
        }
    }

    private void aboutForOthers() {
        b.sentence("7 WANE, 10 + maker: WEIGHT. NONE for others");
        b.asking("about's what", 0, 7, -1, (s, v) -> s.about(v));
        b.asking("about's 10 + maker", 10, 13, -1, (s, v) -> s.about(v));
        for (int what : new int[] {-10, 100, 110, MIN + 9, MIN + 10, MIN + 13, MAX - 13}) {
            b.refused("what " + what, -1, s -> s.about(what));
        }
    }

    private void aboutOfANewObject() {
        b.sentence("0 W, 1 H, 2 SHADOWS, 3 SHINES, 4 LINES, 5 TEXTS, 6 bytes of the tape, 7 WANE");
        TwoSuns s = new TwoSuns(5, 9);
        int[] answers = {5, 9, 0, 0, 0, 0, 0, 90, -1, -1, 0, 0, 0, 0, -1};
        for (int what = 0; what < answers.length; what++) {
            b.due("what " + what, s.about(what), answers[what]);
        }
    }

    private void aboutOfAFullOne() {
        b.sentence("2 SHADOWS, 3 SHINES, 4 LINES, 5 TEXTS, 6 bytes of the tape");
        TwoSuns s = Bounds.full();
        s.maker(1, 9);
        s.wane(100);
        s.end(0);
        for (int i = 0; i < 15; i++) {
            s.feed(0, 0, 0, 0, 0);
        }
        int[] answers = {5, 4, 12, 8, 10, 6, 300, 100, -1, -1, 0, 9, 0, 0, -1};
        for (int what = 0; what < answers.length; what++) {
            b.due("what " + what, s.about(what), answers[what]);
        }
    }
}
