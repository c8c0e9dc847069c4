/** For each promise of the document its ordinary answers, its edges and its wrong inputs, reckoned by hand. */
public final class PromisesTest {
    private static final int MIN = Integer.MIN_VALUE;
    private static final int MAX = Integer.MAX_VALUE;

    private final Due due = new Due("promises");

    public static void main(String[] args) {
        new PromisesTest().all();
    }

    private void all() {
        aNewObject();
        lightAndAt();
        row();
        copy();
        shadow();
        shine();
        lamps();
        fight();
        suns();
        line();
        meet();
        rough();
        grain();
        squares();
        twice();
        two();
        feedAndEnd();
        text();
        faultsOfTokens();
        faultsOfNumbers();
        faultsOfDepth();
        faultsOfActs();
        paste();
        paint();
        reckoning();
        keep();
        flip();
        repeat();
        act();
        story();
        makers();
        say();
        imageAndBack();
        about();
        due.finish();
    }

    private void aNewObject() {
        int[][] asked = {{4, 12}, {3, 13}, {MIN, MAX}, {0, 100}, {5, 11}, {12, 4}};
        int[][] given = {{4, 12}, {4, 12}, {4, 12}, {4, 12}, {5, 11}, {12, 4}};
        for (int i = 0; i < asked.length; i++) {
            TwoSuns s = new TwoSuns(asked[i][0], asked[i][1]);
            due.due("width of " + asked[i][0], s.about(0), given[i][0]);
            due.due("height of " + asked[i][1], s.about(1), given[i][1]);
        }
        TwoSuns s = new TwoSuns(6, 6);
        due.due("a first light", s.at(4, 5, 5), 0);
        s.light(0, 1, 1, 5);
        s.maker(1, 4);
        s.habit(1, 1, 80);
        s.wane(10);
        s.shadow(1, 0, 0, 1, 1, 0);
        s.shine(1);
        s.line(0, 0, 1, 1);
        Due.read(s, "");
        due.due("back to the new object", s.back(), 0);
        due.due("at(0, 1, 1) after back", s.at(0, 1, 1), 0);
        int[] first = {6, 6, 0, 0, 0, 0, 0, 90, -1, -1, 0, 0, 0, 0};
        for (int what = 0; what < first.length; what++) {
            due.due("about(" + what + ") after back", s.about(what), first[what]);
        }
        s.maker(0, 1);
        s.maker(1, 1);
        due.due("habits after back", s.odds(1, 0, 2), 500);
        due.due("NONE", TwoSuns.NONE, -1);
    }

    private void lightAndAt() {
        TwoSuns s = new TwoSuns(5, 7);
        due.due("light of a last cell", s.light(4, 4, 6, 99), true);
        due.due("at it", s.at(4, 4, 6), 99);
        due.due("light 0", s.light(4, 4, 6, 0), true);
        due.due("at it again", s.at(4, 4, 6), 0);
        int[][] wrong = {{-1, 0, 0}, {5, 0, 0}, {0, -1, 0}, {0, 5, 0}, {0, 0, -1}, {0, 0, 7}, {MIN, 0, 0}, {0, MAX, MAX}, {0, MIN, MIN}};
        for (int[] w : wrong) {
            due.due("light outside", s.light(w[0], w[1], w[2], 1), false);
            due.due("at outside", s.at(w[0], w[1], w[2]), -1);
        }
        due.due("light -1", s.light(0, 0, 0, -1), false);
        due.due("light 100", s.light(0, 0, 0, 100), false);
        due.due("nothing was put", s.at(0, 0, 0), 0);
        s.light(2, 1, 3, 7);
        due.due("another picture", s.at(1, 1, 3), 0);
        due.due("x is not y", s.at(2, 3, 1), 0);
    }

    private void row() {
        TwoSuns s = new TwoSuns(12, 4);
        due.due("eight of twelve", s.row(0, 0, 1, 9988776655443322L), 8);
        due.due("the first is the lowest", s.at(0, 0, 1), 22);
        due.due("the eighth", s.at(0, 7, 1), 99);
        due.due("the ninth", s.at(0, 8, 1), 0);
        due.due("to the row's end", s.row(0, 9, 1, 9999999999999999L), 3);
        due.due("the last", s.at(0, 11, 1), 99);
        due.due("not the next row", s.at(0, 0, 2), 0);
        due.due("zeros are put too", s.row(0, 0, 1, 5), 8);
        due.due("five", s.at(0, 0, 1), 5);
        due.due("zero", s.at(0, 1, 1), 0);
        due.due("figures -1", s.row(0, 0, 1, -1L), -1);
        due.due("figures of 17", s.row(0, 0, 1, 10000000000000000L), -1);
        due.due("figures least", s.row(0, 0, 1, Long.MIN_VALUE), -1);
        due.due("x outside", s.row(0, 12, 1, 1L), -1);
        due.due("y outside", s.row(0, 0, 4, 1L), -1);
        due.due("picture outside", s.row(5, 0, 0, 1L), -1);
        due.due("it stays", s.at(0, 0, 1), 5);
    }

    private void copy() {
        TwoSuns s = new TwoSuns(4, 4);
        s.light(0, 1, 2, 33);
        due.due("copy", s.copy(0, 3), true);
        due.due("copied", s.at(3, 1, 2), 33);
        s.light(0, 1, 2, 34);
        due.due("a copy is its own", s.at(3, 1, 2), 33);
        due.due("copy to itself", s.copy(0, 0), true);
        due.due("it stays", s.at(0, 1, 2), 34);
        due.due("from -1", s.copy(-1, 0), false);
        due.due("from 5", s.copy(5, 0), false);
        due.due("to -1", s.copy(0, -1), false);
        due.due("to 5", s.copy(0, 5), false);
    }

    private void shadow() {
        TwoSuns s = new TwoSuns(4, 4);
        int[][] wrong = {
            {0, 0, 0, 1, 1, 0}, {100, 0, 0, 1, 1, 0}, {1, -100, 0, 1, 1, 0}, {1, 100, 0, 1, 1, 0}, {1, 0, -100, 1, 1, 0},
            {1, 0, 100, 1, 1, 0}, {1, 0, 0, 0, 1, 0}, {1, 0, 0, 300, 301, 0}, {1, 0, 0, 2, 1, 0}, {1, 0, 0, 1, 1, -1},
            {1, 0, 0, 1, 1, 21}, {MIN, MIN, MIN, MIN, MIN, MIN}, {MAX, MAX, MAX, MAX, MAX, MAX}};
        for (int[] w : wrong) {
            due.due("a wrong shadow", s.shadow(w[0], w[1], w[2], w[3], w[4], w[5]), -1);
        }
        due.due("no shadow yet", s.about(2), 0);
        due.due("the edges below", s.shadow(1, -99, -99, 1, 1, 0), 0);
        due.due("the edges above", s.shadow(99, 99, 99, 300, 300, 20), 1);
        for (int i = 2; i < 12; i++) {
            due.due("shadow " + i, s.shadow(9, 1, 1, 1, 300, 1), i);
        }
        due.due("a thirteenth", s.shadow(9, 1, 1, 1, 300, 1), -1);
        due.due("twelve", s.about(2), 12);
    }

    private void shine() {
        TwoSuns s = new TwoSuns(4, 4);
        due.due("shine -1", s.shine(-1), -1);
        due.due("shine 8", s.shine(8), -1);
        for (int i = 0; i < 8; i++) {
            due.due("shine " + i, s.shine(i), i);
        }
        due.due("a ninth", s.shine(0), -1);
        due.due("eight", s.about(3), 8);
        // Straight right: dy 0 with dx 1 .. 5, dy +-1 with dx 3 .. 5, dy +-2 with dx 5: 5 + 6 + 2 = 13 of a height.
        // Slanting: 25 ways of a quarter less twice (3 + 1): 17. No azimuth: 1. So 13 + 2 * 17 + 1, and 17 + 2 * 13 + 1.
        due.due("round a straight one", s.lamps(1 << 12, -1), 6 * 48);
        due.due("round a slanting one", s.lamps(1 << 13, -1), 6 * 44);
        due.due("0 and 1", s.lamps(3 << 12, -1), 6 * (13 + 17 + 1));
        due.due("0 and 2", s.lamps(5 << 12, -1), 6 * (17 + 1));
        due.due("0 and 3", s.lamps(9 << 12, -1), 6);
        due.due("7 and 0 are neighbours", s.lamps(129 << 12, -1), 6 * (13 + 17 + 1));
        due.due("the upright lamp", s.lamps(9 << 12, 0), 10505);
        // Up is dy below 0: the first lamp of 2 and 1 and 3 together is straight up, dy -5, dx -2.
        due.due("straight up", s.lamps(14 << 12, 0), 10003);
        due.due("straight left", s.lamps((8 + 16 + 32) << 12, 0), 10300);
        due.due("straight down, its last", s.lamps((32 + 64 + 128) << 12, 6 * 14 - 1), 61007);
        due.due("straight right", s.lamps((1 + 2 + 128) << 12, 0), 10310);
    }

    private void lamps() {
        TwoSuns s = new TwoSuns(4, 4);
        due.due("all lamps", s.lamps(0, -1), 726);
        due.due("the first", s.lamps(0, 0), 10000);
        due.due("dx first", s.lamps(0, 1), 10001);
        due.due("then dy", s.lamps(0, 11), 10100);
        due.due("then h", s.lamps(0, 121), 20000);
        due.due("the last", s.lamps(0, 725), 61010);
        due.due("none behind it", s.lamps(0, 726), -1);
        due.due("i -2", s.lamps(0, -2), -1);
        due.due("i least", s.lamps(0, MIN), -1);
        due.due("i most", s.lamps(0, MAX), -1);
        due.due("not told", s.lamps(1, -1), -1);
        s.shadow(10, 10, -20, 50, 100, 0);
        // |100 h 10 + dx 10 f| = 0 and |-100 h 20 + dy 10 f| = 0: f = 100 h / -dx, dy = -2 dx, f 50 .. 100:
        // h 1: dx -1 (f 100), dx -2 (f 50); h 2: dx -2 (f 100); dy 5 at most, so no dx -3.
        due.due("how many", s.lamps(1, -1), 3);
        due.due("h 1, dy 2, dx -1", s.lamps(1, 0), 10704);
        due.due("h 1, dy 4, dx -2", s.lamps(1, 1), 10903);
        due.due("h 2, dy 4, dx -2", s.lamps(1, 2), 20903);
        due.due("a bit not told", s.lamps(3, -1), -1);
        due.due("bit 20", s.lamps(1 << 20, -1), -1);
        due.due("below 0", s.lamps(-1, -1), -1);
        due.due("least", s.lamps(MIN, -1), -1);
        TwoSuns q = new TwoSuns(4, 4);
        // On the edge of SIDE: |100 h 3 + dx f| <= 100 h with f 200: h 1, dx -1: 100 <= 100; dx -2: 100.
        q.shadow(1, 3, 0, 200, 200, 1);
        due.due("at its edge", q.lamps(1, 0), 10503);
        due.due("dy 0 alone and dx -1, -2, h 2: dx -2 .. -4", q.lamps(1, -1), countByHand(200, 200));
        TwoSuns r = new TwoSuns(4, 4);
        r.shadow(10, 0, 0, 1, 300, 20);
        due.due("a tip by the foot", r.lamps(1, -1), 726);
    }

    /** Of the shadow (1, 3, 0, f, f, 1) how many lamps are let, point by point. */
    private static int countByHand(int low, int high) {
        int count = 0;
        for (int h = 1; h <= 6; h++) {
            for (int dy = -5; dy <= 5; dy++) {
                for (int dx = -5; dx <= 5; dx++) {
                    boolean lets = false;
                    for (int f = low; f <= high; f++) {
                        lets |= Math.abs(300 * h + dx * f) <= 100 * h && Math.abs(dy * f) <= 100 * h;
                    }
                    count += lets ? 1 : 0;
                }
            }
        }
        return count;
    }

    private void fight() {
        TwoSuns s = new TwoSuns(4, 4);
        due.due("of no signs the first lamp", s.fight(0, 0), 10000);
        due.due("let by none", s.fight(0, 1), 0);
        due.due("none left out", s.fight(0, 2), 0);
        s.shadow(10, -10, 0, 100, 100, 0);
        s.shadow(10, 10, 0, 100, 100, 0);
        s.shadow(20, -20, 0, 100, 100, 0);
        s.shine(0);
        int set = 7 | 1 << 12;
        due.due("the lamp of most", s.fight(set, 0), 10506);
        due.due("how many", s.fight(set, 1), 3);
        due.due("left out, as bits", s.fight(set, 2), 2);
        due.due("of like ones the first", s.fight(3, 0), 10504);
        due.due("left out then", s.fight(3, 2), 1);
        due.due("what -1", s.fight(set, -1), -1);
        due.due("what 3", s.fight(set, 3), -1);
        due.due("not told", s.fight(8, 0), -1);
        due.due("not told above", s.fight(1 << 13, 1), -1);
        due.due("below 0", s.fight(MIN, 2), -1);
    }

    private void suns() {
        TwoSuns s = new TwoSuns(4, 4);
        due.due("of none", s.suns(0, -1), 0);
        due.due("none of none", s.suns(0, 0), -1);
        s.shadow(10, -10, 0, 100, 100, 0);
        s.shadow(10, 10, 0, 100, 100, 0);
        s.shadow(10, 0, 10, 100, 100, 0);
        s.shadow(10, 0, -10, 100, 100, 0);
        s.shadow(1, 99, 0, 1, 1, 0);
        s.shadow(20, -20, 0, 100, 100, 0);
        due.due("one", s.suns(1 | 32, -1), 1);
        due.due("its lamp", s.suns(1 | 32, 0), 10506);
        due.due("two", s.suns(3, -1), 2);
        due.due("the lower first", s.suns(3, 0), 10504);
        due.due("then the other", s.suns(3, 1), 10506);
        due.due("no third", s.suns(3, 2), -1);
        due.due("three", s.suns(7, -1), 3);
        due.due("dy -1 first", s.suns(7, 0), 10405);
        due.due("dx -1 then", s.suns(7, 1), 10504);
        due.due("dx 1 then", s.suns(7, 2), 10506);
        due.due("no fourth", s.suns(7, 3), -1);
        due.due("more than three", s.suns(15, -1), -1);
        due.due("none of more than three", s.suns(15, 0), -1);
        due.due("a sign that lets none", s.suns(16, -1), -1);
        due.due("i -2", s.suns(3, -2), -1);
        due.due("not told", s.suns(64, -1), -1);
        due.due("not told above", s.suns(4096, -1), -1);
        due.due("below 0", s.suns(-1, -1), -1);
    }

    private void line() {
        TwoSuns s = new TwoSuns(4, 4);
        int[][] wrong = {{-100, 0, 0, 0}, {0, 100, 0, 0}, {0, 0, 100, 0}, {0, 0, 0, -100}, {5, 6, 5, 6}, {MIN, MAX, MIN, MAX}, {MIN, 0, MAX, 0}};
        for (int[] w : wrong) {
            due.due("a wrong line", s.line(w[0], w[1], w[2], w[3]), -1);
        }
        due.due("from edge to edge", s.line(-99, -99, 99, 99), 0);
        for (int i = 1; i < 10; i++) {
            due.due("line " + i, s.line(0, 0, i, 99), i);
        }
        due.due("an eleventh", s.line(0, 0, 1, 1), -1);
        answersOfMeet(s, 0, 0, 0, 10, 0);
        TwoSuns t = new TwoSuns(4, 4);
        for (int i = 0; i < 9; i++) {
            t.line(0, 0, i, 99);
        }
        t.line(50, 60, 60, 60);
        answersOfMeet(t, 0, 0, 0, 9, 1 << 9);
        TwoSuns u = new TwoSuns(4, 4);
        for (int i = 0; i < 9; i++) {
            u.line(5, 0, 5, 9);
        }
        u.line(0, -38, 10, -38);
        // By slack 1 the upright ones reach x 4 .. 6, the level one y -39 .. -37.
        answersOfMeet(u, 1, 4, -39, 10, 0);
        due.due("ten", s.about(4), 10);
    }

    private void meet() {
        TwoSuns s = new TwoSuns(4, 4);
        for (int what = -1; what <= 4; what++) {
            due.due("meet without lines", s.meet(0, what), -1000);
        }
        s.line(-10, 7, 10, 7);
        // Of one line: the first by y, then x.
        answersOfMeet(s, 0, -40, 7, 1, 0);
        // |20 (y - 7)| <= 2 * 20: y 5 is the first.
        answersOfMeet(s, 2, -40, 5, 1, 0);
        s.line(3, -50, 3, -60);
        answersOfMeet(s, 0, 3, 7, 2, 0);
        s.line(0, 90, 1, 90);
        answersOfMeet(s, 0, 3, 7, 2, 4);
        due.due("slack -1", s.meet(-1, 0), -1000);
        due.due("slack 10", s.meet(10, 0), -1000);
        due.due("what -1", s.meet(0, -1), -1000);
        due.due("what 4", s.meet(0, 4), -1000);
        TwoSuns far = new TwoSuns(4, 4);
        far.line(-99, 60, 99, 60);
        answersOfMeet(far, 9, -40, -40, 0, 1);
        TwoSuns slant = new TwoSuns(4, 4);
        slant.line(0, 0, 3, 1);
        // cross 3 y - x, through if |3 y - x| <= 4 slack: y -40 needs x -124 .. -116 at slack 1; y -14, x -40: |-2| <= 4.
        answersOfMeet(slant, 1, -40, -14, 1, 0);
        // slack 0: 3 y = x: y -13, x -39.
        answersOfMeet(slant, 0, -39, -13, 1, 0);
    }

    private void answersOfMeet(TwoSuns s, int slack, int... answers) {
        for (int what = 0; what < 4; what++) {
            due.due("meet(" + slack + ", " + what + ")", s.meet(slack, what), answers[what]);
        }
    }

    private void rough() {
        TwoSuns s = new TwoSuns(5, 4);
        Due.fill(s, 1, 0, 1, 4, 9, 0, 2);
        Due.fill(s, 1, 1, 2, 0, 9, 5, 7);
        due.due("one cell", s.rough(1, 2, 1, 1, 1), 0);
        due.due("a row", s.rough(1, 0, 0, 5, 1), 3 + 5 + 9 + 2);
        due.due("a column", s.rough(1, 3, 0, 1, 2), 5);
        due.due("a field", s.rough(1, 0, 0, 2, 2), 3 + 2 + 1 + 4);
        due.due("what is beside it doesn't count", s.rough(1, 1, 1, 2, 1), 9);
        due.due("the whole", s.rough(1, 0, 0, 5, 4), 19 + (2 + 9 + 4 + 2) + (1 + 4 + 0 + 5 + 5) + 23);
        int[][] wrong = {{-1, 0, 0, 1, 1}, {5, 0, 0, 1, 1}, {1, -1, 0, 1, 1}, {1, 0, -1, 1, 1}, {1, 5, 0, 1, 1}, {1, 0, 4, 1, 1},
            {1, 0, 0, 0, 1}, {1, 0, 0, 1, 0}, {1, 0, 0, 6, 1}, {1, 4, 0, 2, 1}, {1, 0, 3, 1, 2}, {1, 1, 1, MAX, MAX}, {1, MAX, MAX, 1, 1}, {1, 1, 1, MIN, MIN}};
        for (int[] w : wrong) {
            due.due("rough of no field", s.rough(w[0], w[1], w[2], w[3], w[4]), -1);
        }
    }

    private void grain() {
        TwoSuns s = new TwoSuns(11, 9);
        due.due("whole blocks alone", s.grain(0, 2, 0), 4);
        due.due("median of flat ones", s.grain(0, 2, 1), 0);
        due.due("none odd", s.grain(0, 2, 2), 0);
        // A lone light v in the middle of a block makes it 4 v rough: 8, 16, 20, 48; the lower middle one is 16.
        s.light(0, 1, 1, 2);
        s.light(0, 5, 1, 4);
        s.light(0, 1, 5, 5);
        s.light(0, 5, 5, 12);
        due.due("the lower median", s.grain(0, 2, 1), 16);
        due.due("odd by 2", s.grain(0, 2, 2), 1);
        due.due("8 * 2 is not below 16", s.grain(0, 2, 100), 0);
        due.due("16", s.grain(0, 2, 101), 0);
        due.due("20", s.grain(0, 2, 102), 0);
        due.due("48 above 32", s.grain(0, 2, 103), 1);
        due.due("48 is not above 48", s.grain(0, 3, 103), 0);
        s.light(0, 1, 1, 1);
        due.due("4 * 3 below 16", s.grain(0, 3, 100), 1);
        due.due("4 * 4 is not", s.grain(0, 4, 100), 0);
        due.due("no block 4", s.grain(0, 2, 104), -1);
        due.due("what 3", s.grain(0, 2, 3), -1);
        due.due("what 99", s.grain(0, 2, 99), -1);
        due.due("what -1", s.grain(0, 2, -1), -1);
        due.due("what least", s.grain(0, 2, MIN), -1);
        due.due("t 1", s.grain(0, 1, 0), -1);
        due.due("t 99", s.grain(0, 99, 0), 4);
        due.due("t 100", s.grain(0, 100, 0), -1);
        due.due("picture 5", s.grain(5, 2, 0), -1);
        due.due("picture -1", s.grain(-1, 2, 1), -1);
        TwoSuns nine = new TwoSuns(12, 12);
        due.due("nine blocks", nine.grain(0, 2, 0), 9);
        for (int i = 0; i < 9; i++) {
            nine.light(0, i % 3 * 4 + 1, i / 3 * 4 + 1, 9 - i);
        }
        due.due("the fifth of nine", nine.grain(0, 2, 1), 20);
        due.due("the last block", nine.grain(0, 4, 108), 1);
        TwoSuns three = new TwoSuns(12, 4);
        // A light of 1 in a corner makes a block 2 rough, at an edge 3.
        three.light(0, 0, 0, 1);
        three.light(0, 5, 0, 1);
        three.light(0, 9, 0, 1);
        due.due("2, 3, 3", three.grain(0, 2, 1), 3);
    }

    private void squares() {
        TwoSuns s = new TwoSuns(12, 8);
        for (int x = 0; x < 12; x++) {
            for (int y = 0; y < 8; y++) {
                s.light(0, x, y, (x + 2) / 4 * 10 + (y + 1) / 4 * 3);
            }
        }
        due.due("steps at x 2, 6, 10", s.squares(0, 0, 0, 12, 8, false), 2);
        due.due("steps at y 3, 7", s.squares(0, 0, 0, 12, 8, true), 3);
        due.due("by the picture's x, not the field's", s.squares(0, 1, 1, 5, 4, false), 2);
        due.due("by the picture's y, not the field's", s.squares(0, 1, 1, 5, 4, true), 3);
        // x 3 .. 6: pairs at 4, 5, 6.
        due.due("a pair needs both cells in it", s.squares(0, 3, 0, 4, 4, false), 2);
        due.due("else another", s.squares(0, 2, 0, 4, 4, false), 0);
        due.due("flat, offset 0 without pairs", s.squares(1, 0, 0, 4, 4, false), 1);
        due.due("flat, offset 1 without pairs", s.squares(1, 1, 0, 4, 4, false), 0);
        // By pairs: a step of 9 at x 1 (of 1 and 5, so by 8 pairs) against one of 8 at x 3 (by 4).
        s.light(2, 0, 0, 9);
        for (int x = 3; x < 6; x++) {
            s.light(2, x, 1, 8);
        }
        due.due("by how many pairs", s.squares(2, 0, 0, 6, 4, false), 3);
        int[][] wrong = {{-1, 0, 0, 4, 4}, {5, 0, 0, 4, 4}, {0, 0, 0, 3, 4}, {0, 0, 0, 4, 3}, {0, 9, 0, 4, 4}, {0, 0, 5, 4, 4}, {0, -1, 0, 4, 4}, {0, 0, 0, 13, 4}, {0, 0, 0, MAX, MAX}};
        for (int[] w : wrong) {
            due.due("squares of no field", s.squares(w[0], w[1], w[2], w[3], w[4], false), -1);
            due.due("squares of no field in y", s.squares(w[0], w[1], w[2], w[3], w[4], true), -1);
        }
    }

    private void twice() {
        TwoSuns s = new TwoSuns(8, 4);
        due.due("flat pieces don't count", s.twice(0, 2, 0, 0), 0);
        for (int what = 1; what <= 4; what++) {
            due.due("none", s.twice(0, 2, 0, what), -1);
        }
        Due.fill(s, 0, 0, 11, 22, 91, 70, 50, 11, 22, 33);
        Due.fill(s, 0, 1, 44, 55, 81, 60, 40, 44, 55, 77);
        Due.fill(s, 0, 2, 1, 15, 30, 45, 62, 78, 85, 99);
        Due.fill(s, 0, 3, 99, 71, 58, 33, 20, 5, 37, 66);
        due.due("one pair", s.twice(0, 2, 0, 0), 1);
        int[] first = {0, 0, 5, 0};
        for (int what = 1; what <= 4; what++) {
            due.due("the first pair's " + what, s.twice(0, 2, 0, what), first[what - 1]);
        }
        s.light(0, 6, 1, 58);
        due.due("within 2 it is none", s.twice(0, 2, 2, 0), 0);
        due.due("within 3 it is one", s.twice(0, 2, 3, 0), 1);
        TwoSuns c = new TwoSuns(4, 4);
        for (int y = 0; y < 4; y++) {
            Due.fill(c, 0, y, 0, 9, 0, 9);
        }
        // Corners 0 .. 2 by 0 .. 2: pairs apart by 2 in x or y with the same stripes.
        // Same x, y 0 and 2: three; x 0 and 2: y any of 3 by 3 with the second behind: rows (0,0): 1 way each of 3, and
        // rows apart: (0,1), (1,2), (0,2) twice each (x 0 then 2, x 2 then 0): 3 + 6.
        due.due("no cell in common", c.twice(0, 2, 0, 0), 12);
        due.due("the first's x", c.twice(0, 2, 0, 1), 0);
        due.due("the second's x", c.twice(0, 2, 0, 3), 2);
        due.due("the second's y", c.twice(0, 2, 0, 4), 0);
        due.due("too large to be there twice", c.twice(0, 3, 0, 0), 0);
        due.due("larger than the picture", c.twice(0, 6, 9, 0), 0);
        c.light(1, 0, 0, 1);
        due.due("the first one is not flat: 1 of the corner piece, 5 behind and apart", c.twice(1, 2, 1, 0), 5);
        c.light(2, 3, 3, 1);
        due.due("the last one is not the first", c.twice(2, 2, 1, 0), 0);
        int[][] wrong = {{-1, 2, 0, 0}, {5, 2, 0, 0}, {0, 1, 0, 0}, {0, 7, 0, 0}, {0, 2, -1, 0}, {0, 2, 10, 0}, {0, 2, 0, -1}, {0, 2, 0, 5}, {MIN, MIN, MIN, MIN}};
        for (int[] w : wrong) {
            due.due("a wrong twice", c.twice(w[0], w[1], w[2], w[3]), -1);
        }
    }

    private void two() {
        TwoSuns s = new TwoSuns(6, 5);
        int[] flat = {-3, -3, 0, 3 * 2};
        for (int what = 0; what < 4; what++) {
            due.due("flat ones are near at first", s.two(0, 1, what), flat[what]);
        }
        for (int y = 0; y < 5; y++) {
            for (int x = 0; x < 6; x++) {
                s.light(0, x, y, (x * 17 + y * 29 + x * y * 7) % 97);
                s.light(1, x, y, ((x - 2) * 17 + (y + 1) * 29 + (x - 2) * (y + 1) * 7 + 970) % 97);
            }
        }
        // (x, y) of picture 0 is (x + 2, y - 1) of picture 1.
        int[] moved = {2, -1, 0, 4 * 4};
        for (int what = 0; what < 4; what++) {
            due.due("moved", s.two(0, 1, what), moved[what]);
        }
        due.due("the other way", s.two(1, 0, 0), -2);
        due.due("the other way in y", s.two(1, 0, 1), 1);
        s.light(1, 2, 0, s.at(0, 0, 1) - 9);
        due.due("together", s.two(0, 1, 2), 9);
        due.due("further than 8", s.two(0, 1, 108), 1);
        due.due("not further than 9", s.two(0, 1, 109), 0);
        due.due("cells without another don't count", s.two(0, 1, 100), 1);
        due.due("t 99", s.two(0, 1, 199), 0);
        due.due("with itself", s.two(0, 0, 2), 0);
        int[][] wrong = {{-1, 0, 0}, {5, 0, 0}, {0, -1, 0}, {0, 5, 0}, {0, 1, -1}, {0, 1, 4}, {0, 1, 99}, {0, 1, 200}, {0, 1, MIN}, {0, 1, MAX}};
        for (int[] w : wrong) {
            due.due("a wrong two", s.two(w[0], w[1], w[2]), -1000);
        }
    }

    private void feedAndEnd() {
        TwoSuns s = new TwoSuns(4, 4);
        due.due("end of nothing", s.end(0), 0);
        due.due("end above", s.end(1), -1);
        due.due("end below", s.end(-1), -1);
        for (int n = 20; n <= 300; n += 20) {
            due.due("feed", s.feed(0, 0, 0, 0, 0), n);
        }
        due.due("above 300", s.feed(0, 0, 0, 0, 0), -1);
        due.due("none came", s.about(6), 300);
        due.due("end 281", s.end(281), 281);
        due.due("above 300 again", s.feed(0, 0, 0, 0, 0), -1);
        due.due("end 282", s.end(282), -1);
        due.due("it stays", s.about(6), 281);
        due.due("end 280", s.end(280), 280);
        due.due("just 300", s.feed(0, 0, 0, 0, 0), 300);
        due.due("end least", s.end(MIN), -1);
        due.due("end most", s.end(MAX), -1);
        due.due("end 0", s.end(0), 0);
        // The highest byte of a comes first: "keep 7 0 0;" and the rest cut off.
        s.feed(0x6b656570, 0x20372030, 0x20303b40, -1, -1);
        s.end(11);
        due.due("read in this order", s.text(), 0);
        // Bytes that an end cut off are not there again.
        s.feed(0x40404040, 0, 0, 0, 0);
        s.end(0);
        due.due("an empty text", s.text(), 1);
    }

    private void text() {
        TwoSuns s = new TwoSuns(4, 4);
        due.due("no fault ahead of any", s.fault(0), -1);
        due.due("nor its place", s.fault(1), -1);
        due.due("with a fault none", Due.read(s, "flop"), -1);
        due.due("the tape is empty then", s.about(6), 0);
        due.due("its fault", s.fault(0), 1);
        due.due("its place", s.fault(1), 0);
        due.due("no text", s.about(5), 0);
        for (int i = 0; i < 6; i++) {
            due.due("text " + i, Due.read(s, "paint 0 0 1 1 " + i + ";"), i);
            due.due("the tape is empty", s.about(6), 0);
            due.due("no fault", s.fault(0), 0);
            due.due("no place", s.fault(1), -1);
        }
        due.due("a seventh", Due.read(s, "keep 2 0 0"), -1);
        due.due("the tape stays", s.about(6), 10);
        due.due("it was not read", s.fault(0), 0);
        due.due("six", s.about(5), 6);
        due.due("fault -1", s.fault(-1), -1);
        due.due("fault 2", s.fault(2), -1);
        due.due("fault least", s.fault(MIN), -1);
        for (int i = 0; i < 6; i++) {
            s.act(i, 0);
            due.due("each is itself", s.at(0, 0, 0), i);
        }
    }

    private void faulty(String text, int kind, int place) {
        TwoSuns s = new TwoSuns(4, 4);
        int number = Due.read(s, text);
        due.due("text of " + text, number, kind == 0 ? 0 : -1);
        due.due("fault of " + text, s.fault(0), kind);
        due.due("place of " + text, s.fault(1), place);
    }

    private void fine(String text) {
        faulty(text, 0, -1);
    }

    private void faultsOfTokens() {
        fine("");
        fine(" \n ");
        fine("keep2 0 0;");
        fine("keep\n2\n0\n0\n;\n");
        fine("paste0 1 2 3 4to5 6;");
        fine("repeat1{}");
        fine("repeat 9{repeat 9{}keep 2 0 0;}keep 2 0 0;");
        fine("paint 0 0 1 1 -1--1*(2+x)/y-left*up+round-light;");
        faulty("@", 1, 0);
        faulty("  @", 1, 2);
        faulty("\t", 1, 0);
        faulty("\u00e9", 1, 0);
        faulty("\u0000", 1, 0);
        faulty("Keep 2 0 0;", 1, 0);
        faulty("keepx 2 0 0;", 1, 0);
        faulty(";", 1, 0);
        faulty("}", 1, 0);
        faulty("5", 1, 0);
        faulty("1000", 1, 0);
        faulty("keep 2 0 0", 1, 10);
        faulty("keep 2 0 0 \n ", 1, 13);
        faulty("keep 2 0 ;", 1, 9);
        faulty("keep 2 0 x;", 1, 9);
        faulty("keep -2 0 0;", 1, 5);
        faulty("keep 2 0 0;;", 1, 11);
        faulty("keep 2 0 0; keep", 1, 16);
        faulty("keep 2 0 0@", 1, 10);
        faulty("flip 0 0 1 1 1;", 1, 13);
        faulty("paste 0 0 0 1 1 0 0;", 1, 16);
        faulty("paste 0 0 0 1 1 To 0 0;", 1, 16);
        faulty("paste 0 0 0 1 1 to 0 0}", 1, 22);
        faulty("repeat {}", 1, 7);
        faulty("repeat 2 }", 1, 9);
        faulty("repeat 2 {", 1, 10);
        faulty("repeat 2 {};", 1, 11);
        faulty("repeat 2 {}}", 1, 11);
        faulty("repeat 2 {keep 2 0 0;", 1, 21);
        faulty("paint 0 0 1 1;", 1, 13);
        faulty("paint 0 0 1 1 1", 1, 15);
        faulty("paint 0 0 1 1 +1;", 1, 14);
        faulty("paint 0 0 1 1 1+;", 1, 16);
        faulty("paint 0 0 1 1 1+*2;", 1, 16);
        faulty("paint 0 0 1 1 ();", 1, 15);
        faulty("paint 0 0 1 1 (1;", 1, 16);
        faulty("paint 0 0 1 1 1);", 1, 15);
        faulty("paint 0 0 1 1 1 2;", 1, 16);
        faulty("paint 0 0 1 1 1 1000;", 1, 16);
        faulty("paint 0 0 1 1 x y;", 1, 16);
        faulty("paint 0 0 1 1 xy;", 1, 14);
        for (String letter : new String[] {"a", "z", "A", "Z", "m", "M"}) {
            faulty("paint 0 0 1 1 x" + letter + ";", 1, 14);
        }
        for (String strange : new String[] {"@", "[", "`", "|", "}", ",", ".", ":", "\"", "'", "\u007f", "\u00ff", "_"}) {
            faulty("paint 0 0 1 1 x" + strange + ";", 1, 15);
        }
        faulty("paint 0 0 1 1 -;", 1, 15);
        faulty("paint 0 0 1 1 to;", 1, 14);
        faulty("paint 0 0 1 1 {1};", 1, 14);
        faulty("paint 0 0 1 1 1}", 1, 15);
    }

    private void faultsOfNumbers() {
        fine("paste 4 99 99 99 99 to 99 99;");
        fine("paste 0 0 0 1 1 to 0 0;");
        faulty("paste 5 0 0 1 1 to 0 0;", 2, 6);
        faulty("paste 4 100 0 1 1 to 0 0;", 2, 8);
        faulty("paste 4 0 100 1 1 to 0 0;", 2, 10);
        faulty("paste 4 0 0 0 1 to 0 0;", 2, 12);
        faulty("paste 4 0 0 1 100 to 0 0;", 2, 14);
        faulty("paste 4 0 0 1 1 to 100 0;", 2, 19);
        faulty("paste 4 0 0 1 1 to 0 100;", 2, 21);
        fine("paint 99 99 99 99 999;");
        faulty("paint 100 0 1 1 0;", 2, 6);
        faulty("paint 0 0 1 1 1000;", 2, 14);
        faulty("paint 0 0 1 1 99999999999999999999999;", 2, 14);
        fine("paint 0 0 1 1 00000000000000000000999;");
        fine("keep 050 0 0;");
        faulty("keep 1 0 0;", 2, 5);
        faulty("keep 51 0 0;", 2, 5);
        faulty("keep 4294967298 0 0;", 2, 5);
        faulty("keep 2 100 0;", 2, 7);
        faulty("flip 0 0 0 1;", 2, 9);
        faulty("flip 0 0 1 0;", 2, 11);
        faulty("repeat 0{}", 2, 7);
        faulty("repeat 10{}", 2, 7);
        // The first as tokens are come to.
        faulty("keep 1 0 @", 2, 5);
        faulty("keep @ 1 0", 1, 5);
    }

    private void faultsOfDepth() {
        String paint = "paint 0 0 1 1 ";
        fine(paint + "((((((((1))))))));");
        faulty(paint + "(((((((((1)))))))));", 3, 22);
        fine(paint + "--------1;");
        faulty(paint + "---------1;", 3, 22);
        faulty(paint + "-(-(-(-(-1))));", 3, 22);
        fine(paint + "-(-(-(-(1))))-(-(-(-(-1))));");
        fine(paint + "1-1-1-1-1-1-1-1-1-1-1;");
        fine(paint + "-1*-1*-1*-1*-1*-1*-1*-1*-1*-1;");
        fine(paint + "(1)+(2)+(3)+(4)+(5)+(6)+(7)+(8)+(9)+(1);");
        fine(paint + "-------(1)*-------(1);");
        String seven = "repeat 1{".repeat(7);
        fine(seven + "repeat 1{}" + "}".repeat(7));
        faulty(seven + "repeat 1{repeat 1{", 3, 80);
        fine(seven + paint + "(1);" + "}".repeat(7));
        faulty(seven + paint + "((1));", 3, 63 + 15);
        faulty(seven + paint + "-(1);", 3, 63 + 15);
        fine("repeat 1{}".repeat(10));
        // Of one token the least: what can't stand there at all is 1.
        faulty(paint + "(((((((()", 1, 22);
        faulty(seven + "repeat 1{repeat 1(", 1, 80);
    }

    private void faultsOfActs() {
        String keep = "keep 2 0 0;";
        fine(keep.repeat(16));
        faulty(keep.repeat(17), 4, 176);
        faulty(keep.repeat(16) + " flip 1", 4, 177);
        faulty(keep.repeat(16) + "flop", 1, 176);
        faulty(keep.repeat(16) + "}", 1, 176);
        fine(keep.repeat(15) + "repeat 2{}");
        faulty(keep.repeat(15) + "repeat 2{" + keep + "}", 4, 165 + 9);
        faulty("repeat 2{" + keep.repeat(15) + "}" + keep, 4, 9 + 165 + 1);
        faulty("repeat 2{" + keep.repeat(16) + "}", 4, 9 + 165);
        fine("repeat 2{" + keep.repeat(7) + "}repeat 2{" + keep.repeat(7) + "}");
        faulty(keep.repeat(16) + "repeat 2{}", 4, 176);
    }

    private TwoSuns numbered(int w, int h) {
        TwoSuns s = new TwoSuns(w, h);
        for (int y = 0; y < s.about(1); y++) {
            for (int x = 0; x < s.about(0); x++) {
                s.light(0, x, y, 10 * y + x);
            }
        }
        return s;
    }

    private void isAfter(String text, TwoSuns s, int picture, String want) {
        int number = Due.read(s, text);
        due.due("act of " + text + " at least 0", s.act(number, picture) >= 0, true);
        String got = Due.shown(s, picture);
        due.holds(text + " made " + got + " for " + want, got.equals(want));
    }

    private void paste() {
        TwoSuns s = numbered(4, 4);
        isAfter("paste 0 1 0 2 2 to 0 3;", s, 1, "0 0 0 0/0 0 0 0/0 0 0 0/1 2 0 0/");
        isAfter("paste 0 2 2 9 9 to 1 0;", s, 1, "0 22 23 0/0 32 33 0/0 0 0 0/1 2 0 0/");
        isAfter("paste 0 4 0 9 9 to 0 0;", s, 1, "0 22 23 0/0 32 33 0/0 0 0 0/1 2 0 0/");
        isAfter("paste 0 0 0 4 4 to 2 50;", s, 1, "0 22 23 0/0 32 33 0/0 0 0 0/1 2 0 0/");
        // Of itself, as it was ahead of this act.
        isAfter("paste 0 0 0 3 3 to 1 1;", s, 0, "0 1 2 3/10 0 1 2/20 10 11 12/30 20 21 22/");
        isAfter("paste 0 1 1 3 3 to 0 0;", s, 0, "0 1 2 3/10 11 12 2/20 21 22 12/30 20 21 22/");
        due.due("the last text", s.about(5), 6);
    }

    private void paint() {
        isAfter("paint 1 1 2 2 7;", new TwoSuns(4, 4), 0, "0 0 0 0/0 7 7 0/0 7 7 0/0 0 0 0/");
        isAfter("paint 2 3 99 99 7;", new TwoSuns(4, 4), 0, "0 0 0 0/0 0 0 0/0 0 0 0/0 0 7 7/");
        isAfter("paint 4 0 9 9 7; paint 0 4 9 9 7;", new TwoSuns(4, 4), 0, "0 0 0 0/0 0 0 0/0 0 0 0/0 0 0 0/");
        isAfter("paint 0 0 9 9 x*10+y;", new TwoSuns(4, 4), 0, "0 10 20 30/1 11 21 31/2 12 22 32/3 13 23 33/");
        isAfter("paint 0 0 9 9 light-11;", numbered(4, 4), 0, "0 0 0 0/0 0 1 2/9 10 11 12/19 20 21 22/");
        isAfter("paint 0 0 4 1 100; paint 0 1 4 1 99; paint 0 2 4 1 -1;", numbered(4, 4), 0, "99 99 99 99/99 99 99 99/0 0 0 0/30 31 32 33/");
        // left and up are of the picture, and as they are by then.
        isAfter("paint 0 0 9 9 left+up+1;", new TwoSuns(4, 4), 0, "1 2 3 4/2 5 9 14/3 9 19 34/4 14 34 69/");
        isAfter("paint 1 1 2 2 left+up;", numbered(4, 4), 0, "0 1 2 3/10 11 13 13/20 31 44 23/30 31 32 33/");
        isAfter("paint 0 0 1 1 left+7; paint 3 0 1 1 up+8;", numbered(4, 4), 0, "7 1 2 8/10 11 12 13/20 21 22 23/30 31 32 33/");
        isAfter("paint 0 0 1 1 round+7;", numbered(4, 4), 0, "7 1 2 3/10 11 12 13/20 21 22 23/30 31 32 33/");
    }

    /** What a sum comes to in the cell (3, 2) of light 23. */
    private void comesTo(String sum, int want) {
        TwoSuns s = numbered(4, 4);
        int number = Due.read(s, "paint 3 2 1 1 " + sum + ";");
        s.act(number, 0);
        due.due(sum, s.at(0, 3, 2), want);
    }

    private void reckoning() {
        comesTo("2+3*4", 14);
        comesTo("(2+3)*4", 20);
        comesTo("20-5-4", 11);
        comesTo("20-(5-4)", 19);
        comesTo("60/4/3", 5);
        comesTo("60/4*3", 45);
        comesTo("7/2*2", 6);
        comesTo("50+(-7)/2", 47);
        comesTo("50+-7/2", 47);
        comesTo("50+7/-2", 47);
        comesTo("50+-7/-2", 53);
        comesTo("50+9/0", 50);
        comesTo("50+9/(x-3)", 50);
        comesTo("--5", 5);
        comesTo("5--5", 10);
        comesTo("-5", 0);
        comesTo("light+x*y", 29);
        comesTo("left+up", 22 + 13);
        comesTo("round", 0);
        // Held at 1000000 and the same below, at each step.
        comesTo("999*999*999/200/500", 10);
        comesTo("50+999*999*-999/200/500", 40);
        comesTo("50+-(999*999*2)/200/500", 40);
        comesTo("999*999*2-999*999-999-950", 50);
        comesTo("999*999*2-999*999-999-991", 9);
        comesTo("999*999+999*999-999*999-999-991", 9);
        comesTo("90-999*999-999*999+999*999+999+999+90", 89);
        comesTo("1000000", 23);
    }

    private void keep() {
        isAfter("keep 10 0 0;", numbered(4, 4), 0, "0 0 0 0/10 10 10 10/20 20 20 20/30 30 30 30/");
        isAfter("keep 4 0 0;", numbered(4, 4), 0, "0 0 0 4/8 12 12 12/20 20 20 24/28 32 32 32/");
        isAfter("keep 2 4 8;", numbered(4, 4), 0, "0 0 2 2/10 10 12 12/20 20 22 22/30 30 32 32/");
        isAfter("keep 10 1 0;", numbered(4, 4), 0, "0 1 2 3/10 11 12 13/20 21 22 23/30 31 32 33/");
        isAfter("keep 50 5 9;", numbered(6, 6), 0, "0 1 2 3 4 5/10 0 0 0 0 15/20 0 0 0 0 25/30 50 50 50 50 35/40 50 50 50 50 45/50 51 52 53 54 55/");
        TwoSuns s = new TwoSuns(4, 4);
        Due.fill(s, 0, 0, 99, 76, 75, 74);
        Due.fill(s, 0, 1, 25, 26, 24, 50);
        isAfter("keep 50 0 0;", s, 0, "99 99 50 50/0 50 0 50/0 0 0 0/0 0 0 0/");
        TwoSuns t = new TwoSuns(4, 4);
        Due.fill(t, 0, 0, 99, 86, 85, 84);
        isAfter("keep 34 0 0;", t, 0, "99 99 68 68/0 0 0 0/0 0 0 0/0 0 0 0/");
        TwoSuns u = new TwoSuns(9, 4);
        for (int x = 0; x < 9; x++) {
            u.light(0, x, 0, 1 + x);
        }
        isAfter("keep 20 1 0;", u, 0, "1 0 0 0 0 0 0 0 0/0 0 0 0 0 0 0 0 0/0 0 0 0 0 0 0 0 0/0 0 0 0 0 0 0 0 0/");
    }

    private void flip() {
        isAfter("flip 0 0 4 1;", numbered(4, 4), 0, "3 2 1 0/10 11 12 13/20 21 22 23/30 31 32 33/");
        isAfter("flip 1 1 3 2;", numbered(4, 4), 0, "0 1 2 3/10 13 12 11/20 23 22 21/30 31 32 33/");
        isAfter("flip 2 2 9 9;", numbered(4, 4), 0, "0 1 2 3/10 11 12 13/20 21 23 22/30 31 33 32/");
        isAfter("flip 4 0 9 9;flip 0 4 9 9;flip 1 1 1 1;", numbered(4, 4), 0, "0 1 2 3/10 11 12 13/20 21 22 23/30 31 32 33/");
    }

    private void repeat() {
        isAfter("repeat 3 {paint 0 0 1 1 light*10+round+1;}", new TwoSuns(4, 4), 0, "99 0 0 0/0 0 0 0/0 0 0 0/0 0 0 0/");
        isAfter("repeat 2 {repeat 3 {paint 0 0 1 1 light+round;} paint 1 0 1 1 light+10+round; repeat 1 {} paint 2 0 1 1 round;}"
                + "paint 3 0 1 1 round+5;", new TwoSuns(4, 4), 0, "6 21 1 5/0 0 0 0/0 0 0 0/0 0 0 0/");
    }

    private int actsOf(String text) {
        TwoSuns s = new TwoSuns(4, 4);
        int number = Due.read(s, text);
        return s.act(number, 0);
    }

    private void act() {
        due.due("of an empty text", actsOf(""), 0);
        due.due("of one", actsOf("keep 2 0 0;"), 1);
        due.due("a repeat counts as it is come to", actsOf("repeat 3{}"), 1);
        due.due("and each act in it", actsOf("repeat 3{keep 2 0 0;}"), 4);
        due.due("and each repeat in it", actsOf("repeat 3{repeat 2{keep 2 0 0;}}"), 1 + 3 + 6);
        due.due("acts beyond the picture count", actsOf("paint 50 50 1 1 1;"), 1);
        due.due("it ends at 300", actsOf("repeat 9{repeat 9{repeat 9{keep 2 0 0;}}}"), 300);
        due.due("eight repeats around one another", actsOf("repeat 1{".repeat(8) + "keep 2 0 0;" + "}".repeat(8)), 9);
        TwoSuns sixteen = new TwoSuns(4, 4);
        Due.read(sixteen, "keep 2 0 0;".repeat(15) + "paint 3 1 1 1 7;");
        due.due("sixteen acts", sixteen.act(0, 0), 16);
        due.due("the sixteenth is done", sixteen.at(0, 3, 1), 7);
        due.due("with repeats alone", actsOf("repeat 9{".repeat(8) + "}".repeat(8)), 300);
        // 1 + 9 (1 + 9 * 3) = 253, then 1 + 46 paints.
        String many = "repeat 9{repeat 9{keep 2 0 0;keep 2 0 0;keep 2 0 0;}}repeat 9{repeat 9{paint 0 0 1 1 light+1;}}";
        TwoSuns s = new TwoSuns(4, 4);
        int number = Due.read(s, many);
        due.due("300 of many", s.act(number, 1), 300);
        // 253, the repeat 254; a round is 1 + 9: 255 .. 264, .. 295 .. 304: four rounds (36) and 296 .. 300: 5.
        due.due("the last is done, no more", s.at(1, 0, 0), 41);
        due.due("text -1", s.act(-1, 0), -1);
        due.due("text 1", s.act(1, 0), -1);
        due.due("text most", s.act(MAX, 0), -1);
        due.due("picture -1", s.act(0, -1), -1);
        due.due("picture 5", s.act(0, 5), -1);
        due.due("another picture stays", s.at(0, 0, 0), 0);
    }

    private void story() {
        TwoSuns s = new TwoSuns(4, 4);
        due.due("none is needed", s.story(0, 1, -1), 0);
        due.due("one such", s.story(0, 1, -2), 1);
        due.due("no text of it", s.story(0, 1, 0), -1);
        due.due("to itself", s.story(2, 2, -1), 0);
        s.light(1, 0, 0, 6);
        due.due("no texts, no story", s.story(0, 1, -1), -1);
        due.due("none, how many", s.story(0, 1, -2), -1);
        Due.read(s, "paint 0 0 1 1 light+1;");
        due.due("6 is too far", s.story(0, 1, -1), -1);
        Due.read(s, "paint 0 0 1 1 light+2;");
        due.due("2 2 2", s.story(0, 1, -1), 3);
        due.due("one such of three", s.story(0, 1, -2), 1);
        due.due("its first", s.story(0, 1, 0), 1);
        Due.read(s, "paint 0 0 1 1 light+3;");
        due.due("3 3 is shorter", s.story(0, 1, -1), 2);
        due.due("its text", s.story(0, 1, 1), 2);
        due.due("no third text", s.story(0, 1, 2), -1);
        Due.read(s, "paint 0 0 1 1 light+4;");
        due.due("3 3, 2 4, 4 2", s.story(0, 1, -2), 3);
        due.due("the first by its texts", s.story(0, 1, 0), 1);
        due.due("then", s.story(0, 1, 1), 3);
        due.due("the picture stays", s.at(0, 0, 0), 0);
        due.due("the goal stays", s.at(1, 0, 0), 6);
        due.due("i -3", s.story(0, 1, -3), -1);
        due.due("i least", s.story(0, 1, MIN), -1);
        due.due("i most", s.story(0, 1, MAX), -1);
        due.due("from -1", s.story(-1, 1, -1), -1);
        due.due("from 5", s.story(5, 1, -1), -1);
        due.due("to -1", s.story(0, -1, -1), -1);
        due.due("to 5", s.story(0, 5, -1), -1);
        pastedStory();
    }

    private void pastedStory() {
        TwoSuns s = new TwoSuns(4, 4);
        Due.read(s, "paint 0 0 1 1 9;");
        Due.read(s, "paste 0 0 0 1 1 to 1 0;");
        Due.read(s, "paste 1 0 0 4 4 to 0 0;");
        Due.fill(s, 1, 0, 9, 9, 0, 0);
        // The goal itself can be pasted.
        due.due("from 2: the goal pasted", s.story(2, 1, -1), 1);
        due.due("by", s.story(2, 1, 0), 2);
        Due.fill(s, 3, 0, 9, 9, 0, 0);
        Due.fill(s, 1, 0, 1, 0, 0, 0);
        due.due("from 0: as it became", s.story(0, 3, -1), 2);
        due.due("painted", s.story(0, 3, 0), 0);
        due.due("pasted", s.story(0, 3, 1), 1);
        due.due("from 2: picture 0 is as it is", s.story(2, 3, -1), -1);
        due.due("nothing was done", s.at(2, 0, 0) + s.at(0, 0, 0), 0);
    }

    private void makers() {
        TwoSuns s = new TwoSuns(4, 4);
        int[][] wrong = {{-1, 1}, {4, 1}, {0, -1}, {0, 10}, {MIN, 1}, {MAX, 1}};
        for (int[] w : wrong) {
            due.due("a wrong maker", s.maker(w[0], w[1]), false);
        }
        due.due("without weights", s.odds(0, 0, 0), -1);
        due.due("weight 9", s.maker(3, 9), true);
        due.due("alone", s.odds(3, 0, 63), 1000);
        due.due("without its own weight", s.odds(0, 0, 63), 0);
        due.due("weight 0", s.maker(3, 0), true);
        due.due("without weights again", s.odds(3, 0, 0), -1);
        int[][] wrongHabits = {{-1, 0, 1}, {4, 0, 1}, {0, -1, 1}, {0, 6, 1}, {0, 0, 0}, {0, 0, 100}, {MAX, MAX, MAX}};
        for (int[] w : wrongHabits) {
            due.due("a wrong habit", s.habit(w[0], w[1], w[2]), false);
        }
        s.maker(0, 1);
        s.maker(1, 2);
        due.due("weights alone", s.odds(0, 0, 9), 333);
        due.due("cut", s.odds(1, 0, 9), 666);
        due.due("habit 1", s.habit(0, 5, 1), true);
        due.due("habit 99", s.habit(1, 5, 99), true);
        // 1 * 1 against 2 * 99; without it 1 * 99 against 2 * 1.
        due.due("has it", s.odds(0, 0, 32), 1000 / 199);
        due.due("has it not", s.odds(0, 0, 31), 99000 / 101);
        due.due("wane -1", s.wane(-1), false);
        due.due("wane 101", s.wane(101), false);
        due.due("wane first", s.about(7), 90);
        // Off by 49 either way: 44, 39, 35: cut towards 0 each year.
        due.due("a year", s.odds(0, 1, 32), 6000 / (6 + 2 * 94));
        due.due("two years", s.odds(0, 2, 32), 11000 / (11 + 2 * 89));
        due.due("three years", s.odds(0, 3, 32), 15000 / (15 + 2 * 85));
        due.due("wane 100", s.wane(100), true);
        due.due("nothing wanes", s.odds(0, 50, 32), 1000 / 199);
        due.due("wane 0", s.wane(0), true);
        due.due("not in the year 0", s.odds(0, 0, 32), 1000 / 199);
        due.due("all is 50", s.odds(0, 1, 32), 333);
        int[][] wrongOdds = {{-1, 0, 0}, {4, 0, 0}, {0, -1, 0}, {0, 51, 0}, {0, 0, -1}, {0, 0, 64}, {MIN, MIN, MIN}};
        for (int[] w : wrongOdds) {
            due.due("wrong odds", s.odds(w[0], w[1], w[2]), -1);
        }
        TwoSuns large = new TwoSuns(4, 4);
        for (int maker = 0; maker < 4; maker++) {
            large.maker(maker, 9);
            for (int habit = 0; habit < 6; habit++) {
                large.habit(maker, habit, 99);
            }
        }
        due.due("large ones", large.odds(2, 0, 63), 250);
        TwoSuns small = new TwoSuns(4, 4);
        small.maker(1, 1);
        for (int habit = 0; habit < 6; habit++) {
            small.habit(1, habit, 1);
        }
        due.due("the least there is", small.odds(1, 0, 63), 1000);
    }

    private void say() {
        TwoSuns s = new TwoSuns(12, 4);
        due.due("flat", s.say(0, 0, 2, 0), 0);
        due.due("no block 3", s.say(0, 3, 2, 0), -1);
        due.due("no block -1", s.say(0, -1, 2, 0), -1);
        due.due("k 1", s.say(0, 0, 1, 0), -1);
        due.due("k 7", s.say(0, 0, 7, 0), -1);
        due.due("t -1", s.say(0, 0, 2, -1), -1);
        due.due("t 10", s.say(0, 0, 2, 10), -1);
        due.due("picture 5", s.say(5, 0, 2, 0), -1);
        for (int x = 0; x < 12; x++) {
            for (int y = 0; y < 4; y++) {
                s.light(0, x, y, x < 8 ? 50 + (x * 3 + y * 5) % 7 + (x + y * y) % 3 : (x * 37 + y * 53) % 97);
            }
        }
        int odd = s.grain(0, 3, 102);
        due.due("the last block is odd", odd, 1);
        due.due("odd by 3", s.say(0, 2, 4, 0), 1);
        due.due("not odd", s.say(0, 0, 4, 0), 0);
        // The piece of (1, 0) stands again at (6, 2): it reaches into the last block by none of its cells.
        TwoSuns t = new TwoSuns(12, 4);
        for (int i = 0; i < 48; i++) {
            t.light(0, i % 12, i / 12, i * 2);
        }
        t.light(0, 6, 2, t.at(0, 1, 0));
        t.light(0, 7, 2, t.at(0, 2, 0));
        t.light(0, 6, 3, t.at(0, 1, 1));
        t.light(0, 7, 3, t.at(0, 2, 1));
        due.due("one pair", t.twice(0, 2, 0, 0), 1);
        due.due("the first piece's block", t.say(0, 0, 2, 0), 2);
        due.due("the second piece's block", t.say(0, 1, 2, 0), 2);
        due.due("the block beside it", t.say(0, 2, 2, 0), t.grain(0, 3, 102));
        due.due("by another side it is none", t.say(0, 0, 3, 0), t.grain(0, 3, 100));
    }

    private void imageAndBack() {
        TwoSuns s = new TwoSuns(4, 4);
        s.light(0, 0, 0, 1);
        s.maker(2, 3);
        s.habit(2, 0, 75);
        s.wane(55);
        s.shadow(10, -10, 0, 100, 100, 0);
        s.shine(0);
        s.line(0, 0, 10, 0);
        Due.read(s, "paint 0 0 1 1 11;");
        due.due("image", s.image(), 1);
        s.light(0, 0, 0, 2);
        s.light(4, 3, 3, 2);
        s.maker(2, 4);
        s.maker(1, 1);
        s.habit(2, 0, 25);
        s.wane(56);
        s.shadow(10, 0, 10, 100, 100, 0);
        s.shine(4);
        s.line(5, 5, 5, 6);
        Due.read(s, "paint 0 0 1 1 22;");
        Due.read(s, "flop");
        Due.put(s, "keep");
        due.due("back", s.back(), 1);
        due.due("the fault is not of the image", s.fault(0), 1);
        due.due("nor is the tape", s.about(6), 4);
        due.due("light", s.at(0, 0, 0), 1);
        due.due("light of the last", s.at(4, 3, 3), 0);
        int[] kept = {4, 4, 1, 1, 1, 1, 4, 55, -1, -1, 0, 0, 3, 0};
        for (int what = 0; what < kept.length; what++) {
            due.due("about(" + what + ")", s.about(what), kept[what]);
        }
        s.maker(0, 3);
        due.due("habit", s.odds(2, 0, 1), 600);
        due.due("the second shadow is not told", s.lamps(2, -1), -1);
        due.due("nor the second shine", s.lamps(2 << 12, -1), -1);
        due.due("nor the second text", s.act(1, 0), -1);
        s.copy(0, 3);
        s.light(3, 0, 0, 22);
        due.due("nor is it told in a story", s.story(0, 3, -1), -1);
        s.light(3, 0, 0, 11);
        due.due("but the first one is", s.story(0, 3, -1), 1);
        due.due("the first one is the same", s.lamps(1 | 1 << 12, 0), 10506);
        due.due("line 1 anew", s.line(0, 9, 1, 9), 1);
        due.due("it is not the old one", s.meet(0, 2), 1);
        due.due("shadow 1 anew", s.shadow(10, 10, 0, 100, 100, 0), 1);
        due.due("its lamps", s.lamps(2, 0), 10504);
        due.due("shine 1 anew", s.shine(2), 1);
        due.due("its lamps", s.lamps(2 << 12, 0), 10000);
        due.due("text 1 anew", Due.read(s, "paint 0 0 1 1 33;"), 1);
        s.act(1, 0);
        due.due("it is the new one", s.at(0, 0, 0), 33);
        s.act(0, 0);
        due.due("and the first is the first", s.at(0, 0, 0), 11);
        due.due("back again: the image stays", s.back(), 1);
        due.due("light again", s.at(0, 0, 0), 1);
        due.due("image again", s.image(), 1);
        s.light(0, 0, 0, 9);
        s.back();
        due.due("what is done after an image is not in it", s.at(0, 0, 0), 1);
    }

    private void about() {
        TwoSuns s = new TwoSuns(7, 9);
        int[] wrong = {-1, 8, 9, 14, 15, MIN, MAX};
        for (int what : wrong) {
            due.due("about(" + what + ")", s.about(what), -1);
        }
        due.due("W", s.about(0), 7);
        due.due("H", s.about(1), 9);
        s.maker(0, 5);
        s.maker(3, 6);
        s.feed(0, 0, 0, 0, 0);
        s.wane(0);
        due.due("weight of 0", s.about(10), 5);
        due.due("weight of 3", s.about(13), 6);
        due.due("bytes", s.about(6), 20);
        due.due("wane", s.about(7), 0);
    }
}
