/** The sentences of the document that name a boundary case of lamps and lines: promises 6 to 12, and their terms. */
public final class BoundsOfLampsTest {
    private static final int MIN = Bounds.MIN;
    private static final int MAX = Bounds.MAX;
    private static final int FIRST_SHINE = 1 << 12;

    private final Bounds b = new Bounds("bounds of lamps");

    public static void main(String[] args) {
        BoundsOfLampsTest t = new BoundsOfLampsTest();
        t.shadows();
        t.shines();
        t.sets();
        t.suns();
        t.lines();
        t.meetings();
        t.b.finish();
    }

    private void shadows() {
        shadowForOthers();
        lowAboveHigh();
        twelveShadows();
        factorsFromLowToHigh();
        wholeFactors();
        sideAtMost();
        allAndNone();
        farthestTips();
    }

    private void shines() {
        shineForOthers();
        eightShines();
        upright();
        straightOrSlanting();
        roundTheEight();
    }

    private void sets() {
        lampsInTheirOrder();
        lampsAsked();
        letByAllOfASet();
        noneSuchLamp();
        signsAsBits();
        signsNotTold();
        fightForOthers();
        fightOfLikeOnes();
        fightOfNone();
        fightOfAll();
    }

    private void suns() {
        sunsOfTheEmptySet();
        sunsAsked();
        threeAtMost();
        firstSuns();
        sunsBehindAWayBack();
        signThatLetsNone();
    }

    private void lines() {
        lineForOthers();
        unlikeEnds();
        tenLines();
    }

    private void meetings() {
        meetForOthers();
        withoutLines();
        pointsUpToForty();
        likePoints();
        throughBySlack();
        noLineThrough();
        bitsOfLines();
    }

    private void shadowForOthers() {
        b.sentence("of a thing HEIGH (1 .. 99)");
        b.range("high", 1, 99, -1, (s, v) -> s.shadow(v, 1, 1, 50, 60, 2));
        b.sentence("the tip E (ex, ey: -99 .. 99 each)");
        b.range("ex", -99, 99, -1, (s, v) -> s.shadow(10, v, 1, 50, 60, 2));
        b.range("ey", -99, 99, -1, (s, v) -> s.shadow(10, 1, v, 50, 60, 2));
        b.sentence("from LOW to HIGH hundredths of its length (1 .. 300 each)");
        b.range("low", 1, 300, -1, (s, v) -> s.shadow(10, 1, 1, v, 300, 2));
        b.range("most", 1, 300, -1, (s, v) -> s.shadow(10, 1, 1, 1, v, 2));
        b.sentence("SIDE (0 .. 20) off");
        b.range("side", 0, 20, -1, (s, v) -> s.shadow(10, 1, 1, 50, 60, v));
    }

    private void lowAboveHigh() {
        b.sentence("NONE for others, LOW above HIGH");
        b.range("most by a low of 100", 100, 300, -1, (s, v) -> s.shadow(10, 1, 1, 100, v, 2));
        b.range("low by a most of 100", 1, 100, -1, (s, v) -> s.shadow(10, 1, 1, v, 100, 2));
        b.refused("300 above 1", -1, s -> s.shadow(10, 1, 1, 300, 1, 2));
        b.refused("both too great", -1, s -> s.shadow(10, 1, 1, 301, 301, 2));
        b.refused("both too small", -1, s -> s.shadow(10, 1, 1, 0, 0, 2));
    }

    private void twelveShadows() {
        b.sentence("SHADOWS (12 at most)");
        TwoSuns s = new TwoSuns(4, 4);
        for (int i = 0; i < 12; i++) {
            b.due("its number", s.shadow(10, -10, 0, 100, 100, i), i);
            b.due("so many", s.about(2), i + 1);
        }
        b.sentence("A SHADOW: its number. NONE for others, LOW above HIGH, or if there are 12");
        b.due("a thirteenth", s.shadow(10, -10, 0, 100, 100, 0), -1);
        b.due("still 12", s.about(2), 12);
        b.due("the last is as it was", s.lamps(1 << 11, -1) > s.lamps(1, -1), true);
        b.refusedWhenFull("a thirteenth", -1, f -> f.shadow(10, -10, 0, 100, 100, 0));
        b.refusedWhenFull("a wrong thirteenth", -1, f -> f.shadow(0, -10, 0, 100, 100, 0));
        s.back();
        b.due("room again behind a way back", s.shadow(10, -10, 0, 100, 100, 0), 0);
    }

    private boolean letsByShadow(int lamp, int high, int ex, int ey, int low, int most, int side) {
        TwoSuns s = new TwoSuns(4, 4);
        b.due("the shadow is told", s.shadow(high, ex, ey, low, most, side), 0);
        return Bounds.lets(s, 1, lamp);
    }

    private void factorsFromLowToHigh() {
        b.sentence("A SHADOW LETS a LAMP if for some whole f from LOW to HIGH");
        // |100 * -10 + 1 * 10 f| is 0 by f 100 alone.
        int lamp = Bounds.lamp(1, 0, 1);
        int[][] grounds = {{100, 100}, {99, 100}, {100, 101}, {1, 100}, {100, 300}, {1, 300}};
        for (int[] g : grounds) {
            b.due("f 100 of " + g[0] + " .. " + g[1], letsByShadow(lamp, 10, -10, 0, g[0], g[1], 0), true);
            b.due("in y too", letsByShadow(Bounds.lamp(0, 1, 1), 10, 0, -10, g[0], g[1], 0), true);
        }
        int[][] others = {{99, 99}, {101, 101}, {1, 99}, {101, 300}};
        for (int[] g : others) {
            b.due("f 100 of " + g[0] + " .. " + g[1], letsByShadow(lamp, 10, -10, 0, g[0], g[1], 0), false);
            b.due("in y too", letsByShadow(Bounds.lamp(0, 1, 1), 10, 0, -10, g[0], g[1], 0), false);
        }
        // In x and y by the same f: by f 100 in x and by f 50 in y is by none.
        b.due("one f for both", letsByShadow(Bounds.lamp(1, 2, 1), 10, -10, -10, 1, 300, 0), false);
        b.due("one f for both, 100", letsByShadow(Bounds.lamp(1, 1, 1), 10, -10, -10, 1, 300, 0), true);
        b.due("f 1", letsByShadow(lamp, 1, 0, 0, 1, 1, 0), false);
        b.due("f 1, |0 + 1| of 100", letsByShadow(lamp, 1, 0, 0, 1, 1, 1), true);
        b.due("f 300", letsByShadow(lamp, 1, -3, 0, 300, 300, 0), true);
    }

    private void wholeFactors() {
        b.sentence("for some whole f from LOW to HIGH");
        // |-100 + dx f| is 0 by f 100, 50, 25 and 20 for dx 1, 2, 4, 5, and by no whole one for dx 3.
        for (int dx = 1; dx <= 5; dx++) {
            b.due("dx " + dx, letsByShadow(Bounds.lamp(dx, 0, 1), 1, -1, 0, 1, 300, 0), dx != 3);
            b.due("dx " + -dx + " is the wrong way", letsByShadow(Bounds.lamp(-dx, 0, 1), 1, -1, 0, 1, 300, 0), false);
            b.due("dy " + dx, letsByShadow(Bounds.lamp(0, dx, 1), 1, 0, -1, 1, 300, 0), dx != 3);
        }
    }

    private void sideAtMost() {
        b.sentence("are 100 h SIDE at most");
        // |300 - f| against 200, and |300 - 5 f| against 200.
        int[][] cases = {{-1, 99, 0}, {-1, 100, 1}, {-1, 101, 1}, {-5, 99, 1}, {-5, 100, 1}, {-5, 101, 0}, {-5, 20, 1}, {-5, 19, 0}, {-5, 21, 1}};
        for (int[] c : cases) {
            b.due("dx " + c[0] + " by f " + c[1], letsByShadow(Bounds.lamp(c[0], 0, 1), 1, 3, 0, c[1], c[1], 2), c[2] == 1);
            b.due("dy " + c[0] + " by f " + c[1], letsByShadow(Bounds.lamp(0, c[0], 1), 1, 0, 3, c[1], c[1], 2), c[2] == 1);
            b.due("mirrored", letsByShadow(Bounds.lamp(-c[0], 0, 1), 1, -3, 0, c[1], c[1], 2), c[2] == 1);
        }
        // Without a pull: 100 h ex against 100 h SIDE.
        for (int h = 1; h <= 6; h += 5) {
            int upright = Bounds.lamp(0, 0, h);
            b.due("20 off of 20", letsByShadow(upright, 1, 20, 0, 1, 300, 20), true);
            b.due("21 off of 20", letsByShadow(upright, 1, 21, 0, 1, 300, 20), false);
            b.due("20 off of 19", letsByShadow(upright, 1, 20, 0, 1, 300, 19), false);
            b.due("20 off of 20 in y", letsByShadow(upright, 1, 0, -20, 1, 300, 20), true);
            b.due("21 off of 20 in y", letsByShadow(upright, 1, 0, -21, 1, 300, 20), false);
            b.due("0 off of 0", letsByShadow(upright, 99, 0, 0, 1, 300, 0), true);
            b.due("1 off of 0", letsByShadow(upright, 99, 1, 0, 1, 300, 0), false);
            b.due("1 off of 0 in y", letsByShadow(upright, 99, 0, 1, 1, 300, 0), false);
        }
    }

    private void allAndNone() {
        b.sentence("A SHADOW LETS a LAMP if for some whole f");
        TwoSuns s = new TwoSuns(4, 4);
        // |0 + dx f| is 5 at most by f 1, and 100 h SIDE is 2000 at least.
        s.shadow(1, 0, 0, 1, 1, 20);
        b.due("all", s.lamps(1, -1), 726);
        b.due("the first", s.lamps(1, 0), Bounds.lamp(-5, -5, 1));
        b.due("the last", s.lamps(1, 725), Bounds.lamp(5, 5, 6));
        // By f 100 and HEIGH 1 the first and the last lamp are those opposite to the tip: 100 h 5 = 500, 600 * 5 = 100 * 5 * 6.
        s.shadow(1, 5, 5, 100, 100, 0);
        b.due("the first alone", s.lamps(2, 0), Bounds.lamp(-5, -5, 1));
        s.shadow(6, -5, -5, 100, 100, 0);
        b.due("the last alone", s.lamps(4, s.lamps(4, -1) - 1), Bounds.lamp(5, 5, 6));
        s.shadow(1, 99, 99, 1, 1, 0);
        b.due("none", s.lamps(8, -1), 0);
    }

    private void farthestTips() {
        b.sentence("of a thing HEIGH (1 .. 99) from its foot to the tip E (ex, ey: -99 .. 99 each)");
        TwoSuns s = new TwoSuns(4, 4);
        // 100 h 99 = 99 * 100 |dx|: |dx| = |dy| = h, and 6 is too far.
        s.shadow(99, 99, -99, 100, 100, 0);
        s.shadow(99, -99, 99, 100, 100, 0);
        b.due("five", s.lamps(1, -1), 5);
        b.due("the first", s.lamps(1, 0), Bounds.lamp(-1, 1, 1));
        b.due("the last", s.lamps(1, 4), Bounds.lamp(-5, 5, 5));
        b.due("the first of the other", s.lamps(2, 0), Bounds.lamp(1, -1, 1));
        b.due("the last of the other", s.lamps(2, 4), Bounds.lamp(5, -5, 5));
        // The strongest pull there is: 5 * 99 * 300 against 600 * 99 and 600 * 20.
        s.shadow(99, -99, -99, 300, 300, 20);
        b.due("5 * 99 * 300 is too much for h 6", Bounds.lets(s, 4, Bounds.lamp(5, 5, 6)), false);
        b.due("2 * 99 * 300 is 600 * 99", Bounds.lets(s, 4, Bounds.lamp(2, 2, 6)), true);
    }

    private void shineForOthers() {
        b.sentence("a POINT 0 .. 7");
        b.range("point", 0, 7, -1, (s, v) -> s.shine(v));
    }

    private void eightShines() {
        b.sentence("SHINES (8 at most)");
        TwoSuns s = new TwoSuns(4, 4);
        for (int i = 0; i < 8; i++) {
            b.due("its number (0 .. 7)", s.shine(7 - i), i);
            b.due("so many", s.about(3), i + 1);
        }
        b.sentence("A SHINE: its number (0 .. 7). NONE for others, or if there are 8");
        b.due("a ninth", s.shine(3), -1);
        b.due("still 8", s.about(3), 8);
        b.refusedWhenFull("a ninth", -1, f -> f.shine(0));
        b.refusedWhenFull("a wrong ninth", -1, f -> f.shine(8));
        s.back();
        b.due("room again behind a way back", s.shine(4), 0);
    }

    private void upright() {
        b.sentence("AZIMUTH of a LAMP: of its (dx, -dy): (0, 0) has none");
        for (int point = 0; point < 8; point++) {
            TwoSuns s = new TwoSuns(4, 4);
            s.shine(point);
            b.due("h 1", Bounds.lets(s, FIRST_SHINE, Bounds.lamp(0, 0, 1)), true);
            b.due("h 6", Bounds.lets(s, FIRST_SHINE, Bounds.lamp(0, 0, 6)), true);
        }
    }

    /** A lamp's azimuth is known by which points let it: itself and its two neighbours. */
    private void azimuth(int dx, int dy, int azimuth) {
        for (int point = 0; point < 8; point++) {
            TwoSuns s = new TwoSuns(4, 4);
            s.shine(point);
            int off = Math.floorMod(point - azimuth, 8);
            boolean lets = off == 0 || off == 1 || off == 7;
            b.due(dx + " " + dy + " by " + point, Bounds.lets(s, FIRST_SHINE, Bounds.lamp(dx, dy, 1)), lets);
            b.due(dx + " " + dy + " by " + point + " of h 6", Bounds.lets(s, FIRST_SHINE, Bounds.lamp(dx, dy, 6)), lets);
        }
    }

    private void straightOrSlanting() {
        b.sentence("straight if 2 b < a (or 2 a < b), else slanting");
        // Twice the smaller one is as much as the greater one, or one less than it, or one more.
        int[][] slanting = {{2, 1}, {1, 2}, {4, 2}, {2, 4}, {3, 2}, {2, 3}, {5, 3}, {3, 5}, {1, 1}, {5, 5}};
        for (int[] way : slanting) {
            azimuth(way[0], -way[1], 1);
            azimuth(-way[0], -way[1], 3);
            azimuth(-way[0], way[1], 5);
            azimuth(way[0], way[1], 7);
        }
        int[][] straight = {{1, 0}, {5, 0}, {3, 1}, {5, 1}, {5, 2}};
        for (int[] way : straight) {
            azimuth(way[0], way[1], 0);
            azimuth(way[0], -way[1], 0);
            azimuth(way[1], -way[0], 2);
            azimuth(-way[1], -way[0], 2);
            azimuth(-way[0], way[1], 4);
            azimuth(-way[0], -way[1], 4);
            azimuth(way[1], way[0], 6);
            azimuth(-way[1], way[0], 6);
        }
    }

    private void roundTheEight() {
        b.sentence("or one by 1 at most off round the eight");
        int[] lets = {0b10000011, 0b00000111, 0b00001110, 0b00011100, 0b00111000, 0b01110000, 0b11100000, 0b11000001};
        for (int azimuth = 0; azimuth < 8; azimuth++) {
            TwoSuns s = shining();
            int points = 0;
            for (int point = 0; point < 8; point++) {
                points |= Bounds.lets(s, FIRST_SHINE << point, middleOf(azimuth)) ? 1 << point : 0;
            }
            b.due("points that let azimuth " + azimuth, points, lets[azimuth]);
        }
    }

    /** Shine i is that of point i. */
    private static TwoSuns shining() {
        TwoSuns s = new TwoSuns(4, 4);
        for (int point = 0; point < 8; point++) {
            s.shine(point);
        }
        return s;
    }

    /** A lamp of an azimuth. */
    private static int middleOf(int azimuth) {
        int[] dx = {4, 4, 0, -4, -4, -4, 0, 4};
        int[] dy = {0, -4, -4, -4, 0, 4, 4, 4};
        return Bounds.lamp(dx[azimuth], dy[azimuth], 3);
    }

    private void lampsInTheirOrder() {
        b.sentence("LAMPS: (dx, dy, h), dx and dy -5 .. 5, h 1 .. 6; in their order: by h, then dy, then dx");
        int i = 0;
        TwoSuns s = new TwoSuns(4, 4);
        for (int h = 1; h <= 6; h++) {
            for (int dy = -5; dy <= 5; dy++) {
                for (int dx = -5; dx <= 5; dx++) {
                    // An object is used for 512 calls at most.
                    s = i % 500 == 0 ? new TwoSuns(4, 4) : s;
                    b.due("lamp " + i, s.lamps(0, i), 10000 * h + 100 * (dy + 5) + dx + 5);
                    i++;
                }
            }
        }
        TwoSuns t = new TwoSuns(4, 4);
        b.due("so many", t.lamps(0, -1), i);
        b.due("none behind the last", t.lamps(0, i), -1);
    }

    private void lampsAsked() {
        b.sentence("LET by a set: how many LAMPS (i NONE), the i-th");
        // The first shadow of the busy object lets five lamps, (h, 0, h).
        TwoSuns s = Bounds.busy();
        b.due("how many", s.lamps(1, -1), 5);
        for (int h = 1; h <= 5; h++) {
            b.due("the one of h " + h, s.lamps(1, h - 1), Bounds.lamp(h, 0, h));
        }
        for (int i : new int[] {-2, 5, MIN, MAX}) {
            b.refused("i " + i, -1, t -> t.lamps(1, i));
        }
        TwoSuns asked = Bounds.busy();
        asked.lamps(1, -1);
        asked.lamps(1, 4);
        b.unchanged("lamps only asks", asked, Bounds.busy());
        b.refused("i -2 of the empty set", -1, t -> t.lamps(0, -2));
        b.refused("i 726 of the empty set", -1, t -> t.lamps(0, 726));
    }

    private void letByAllOfASet() {
        b.sentence("LET by a set of them: LAMPS that all of them LET");
        TwoSuns s = new TwoSuns(4, 4);
        // The first lets (h, 0, h) of h 1 .. 5, by f 100; the second these too, and others, as (2, 0, 1) by f 50.
        s.shadow(10, -10, 0, 100, 100, 0);
        s.shadow(10, -10, 0, 50, 100, 0);
        s.shine(0);
        s.shine(2);
        s.shine(3);
        b.due("none of them: all", s.lamps(0, -1), 726);
        b.due("the first", s.lamps(1, -1), 5);
        b.due("the second, f 50", Bounds.lets(s, 2, Bounds.lamp(2, 0, 1)), true);
        b.due("not the first by it", Bounds.lets(s, 1, Bounds.lamp(2, 0, 1)), false);
        b.due("both", s.lamps(3, -1), 5);
        b.due("both and the shine to the right", s.lamps(3 | FIRST_SHINE, -1), 5);
        b.due("all but the first", Bounds.lets(s, 2 | FIRST_SHINE, Bounds.lamp(2, 0, 1)), true);
        b.due("with a shine that is 2 off", s.lamps(3 | FIRST_SHINE << 1, -1), 0);
        b.due("two shines that are 2 off: slanting between them, and upright", s.lamps(FIRST_SHINE * 3, -1), 6 * (17 + 1));
        b.due("two shines that are 3 off: upright alone", s.lamps(FIRST_SHINE * 5, -1), 6);
        b.due("all of them", s.lamps(3 | FIRST_SHINE * 7, -1), 0);
    }

    private void noneSuchLamp() {
        b.sentence("NONE if there is none such");
        TwoSuns s = new TwoSuns(4, 4);
        s.shadow(10, -10, 0, 100, 100, 0);
        s.shadow(10, 10, 0, 100, 100, 0);
        b.due("two that let none together", s.lamps(3, -1), 0);
        b.due("the first of none", s.lamps(3, 0), -1);
        b.due("one of five, the last", s.lamps(1, 4), Bounds.lamp(5, 0, 5));
        b.due("one of five, a sixth", s.lamps(1, 5), -1);
        b.due("one of five, the greatest i", s.lamps(1, MAX), -1);
        b.due("one of five, the least i", s.lamps(1, MIN), -1);
    }

    private void signsAsBits() {
        b.sentence("SIGNS: SHADOWS 0 .. 11 as bits 0 .. 11, SHINES as bits 12 .. 19");
        TwoSuns s = shining();
        for (int i = 0; i < 12; i++) {
            // By f 100 and HEIGH 1 shadow i lets of the lamps of h 1 only the one that lies opposite to its tip.
            s.shadow(1, 5 - i % 11, i / 11, 100, 100, 0);
        }
        for (int i = 0; i < 12; i++) {
            b.due("bit " + i, s.lamps(1 << i, 0), Bounds.lamp(i % 11 - 5, -(i / 11), 1));
        }
        for (int i = 0; i < 8; i++) {
            b.due("bit " + (12 + i), Bounds.lets(s, FIRST_SHINE << i, middleOf(i)), true);
            b.due("bit " + (12 + i) + " is not its opposite", Bounds.lets(s, FIRST_SHINE << i, middleOf((i + 4) % 8)), false);
        }
        b.due("all twenty are told", s.lamps((1 << 20) - 1, -1), 0);
    }

    private interface OfASet {
        int of(TwoSuns s, int set);
    }

    private void notTold(String what, OfASet call) {
        // The busy object has shadows 0 and 1 and shines 0 and 1.
        for (int bit : new int[] {0, 1, 12, 13}) {
            b.due(what + " of bit " + bit, call.of(Bounds.busy(), 1 << bit) != -1, true);
        }
        for (int bit : new int[] {2, 11, 14, 19, 20, 30, 31}) {
            b.refused(what + " of bit " + bit, -1, s -> call.of(s, 1 << bit));
            b.refused(what + " of bit " + bit + " and told ones", -1, s -> call.of(s, 1 << bit | 1));
        }
        b.refused(what + " of all bits", -1, s -> call.of(s, -1));
        for (int bit : new int[] {0, 11, 12, 19}) {
            b.due(what + " of bit " + bit + " of all", call.of(Bounds.full(), 1 << bit) != -1, true);
        }
        for (int bit = 20; bit < 32; bit++) {
            int set = 1 << bit;
            b.due(what + " of bit " + bit + " of all", call.of(Bounds.full(), set), -1);
        }
        TwoSuns shadows = new TwoSuns(4, 4);
        for (int i = 0; i < 11; i++) {
            shadows.shadow(1, 0, 0, 1, 1, 1);
        }
        b.due(what + " of bit 10 of eleven shadows", call.of(shadows, 1 << 10) != -1, true);
        b.due(what + " of bit 11 of eleven shadows", call.of(shadows, 1 << 11), -1);
        b.due(what + " of bit 12 without shines", call.of(shadows, 1 << 12), -1);
        shadows.shadow(1, 0, 0, 1, 1, 1);
        b.due(what + " of bit 11 of twelve shadows", call.of(shadows, 1 << 11) != -1, true);
        b.due(what + " of bit 12 of twelve shadows", call.of(shadows, 1 << 12), -1);
        TwoSuns shines = new TwoSuns(4, 4);
        for (int i = 0; i < 7; i++) {
            shines.shine(i);
        }
        b.due(what + " of bit 18 of seven shines", call.of(shines, 1 << 18) != -1, true);
        b.due(what + " of bit 19 of seven shines", call.of(shines, 1 << 19), -1);
        b.due(what + " of bit 0 without shadows", call.of(shines, 1), -1);
    }

    private void signsNotTold() {
        b.sentence("and for others (SIGNS that aren't told)");
        notTold("lamps, how many,", (s, set) -> s.lamps(set, -1));
        notTold("lamps, the first,", (s, set) -> s.lamps(set, 0));
        b.sentence("FIGHT: 0 the LAMP, 1 how many LET it, 2 those left out. NONE for others");
        for (int what = 0; what < 3; what++) {
            int asked = what;
            notTold("fight " + what, (s, set) -> s.fight(set, asked));
        }
        b.sentence("SUNS: how many (i NONE; 0 of the empty set), the i-th LAMP. NONE: more than 3, if there is none such, and for others");
        notTold("suns, how many,", (s, set) -> s.suns(set, -1));
        notTold("suns, the first,", (s, set) -> s.suns(set, 0));
    }

    private void fightForOthers() {
        b.sentence("FIGHT: 0 the LAMP, 1 how many LET it, 2 those left out. NONE for others");
        b.asking("fight's what", 0, 2, -1, (s, v) -> s.fight(3 | 3 << 12, v));
        b.asking("fight's what of the empty set", 0, 2, -1, (s, v) -> s.fight(0, v));
    }

    private void fightOfLikeOnes() {
        b.sentence("FIGHT: the LAMP that most of a set LET, of like ones the first; those left out");
        TwoSuns s = new TwoSuns(4, 4);
        s.shadow(10, -10, 0, 100, 100, 0);
        s.shadow(10, 10, 0, 100, 100, 0);
        s.shadow(10, 10, 0, 100, 100, 0);
        b.due("one each: (-1, 0, 1) is the first", s.fight(3, 0), Bounds.lamp(-1, 0, 1));
        b.due("one lets it", s.fight(3, 1), 1);
        b.due("the other is left out", s.fight(3, 2), 1);
        b.due("two against one", s.fight(7, 0), Bounds.lamp(-1, 0, 1));
        b.due("two let it", s.fight(7, 1), 2);
        b.due("one is left out", s.fight(7, 2), 1);
        b.due("one alone", s.fight(1, 0), Bounds.lamp(1, 0, 1));
        b.due("one lets it", s.fight(1, 1), 1);
        b.due("none is left out", s.fight(1, 2), 0);
    }

    private void fightOfNone() {
        b.sentence("the LAMP that most of a set LET, of like ones the first");
        TwoSuns s = new TwoSuns(4, 4);
        b.due("of the empty set the first", s.fight(0, 0), Bounds.lamp(-5, -5, 1));
        b.due("let by none", s.fight(0, 1), 0);
        b.due("none left out", s.fight(0, 2), 0);
        s.shadow(1, 99, 0, 1, 1, 0);
        b.due("of a sign that lets none the first", s.fight(1, 0), Bounds.lamp(-5, -5, 1));
        b.due("let by none of it", s.fight(1, 1), 0);
        b.due("it is left out", s.fight(1, 2), 1);
        // The first lamp may be the one that most let, too.
        s.shadow(1, 0, 0, 1, 1, 20);
        b.due("the first of all", s.fight(2, 0), Bounds.lamp(-5, -5, 1));
        b.due("one lets it", s.fight(2, 1), 1);
        b.due("none is left out", s.fight(2, 2), 0);
        b.due("one of two lets it", s.fight(3, 1), 1);
        b.due("the other is left out", s.fight(3, 2), 1);
    }

    private void fightOfAll() {
        b.sentence("SHADOWS 0 .. 11 as bits 0 .. 11, SHINES as bits 12 .. 19");
        TwoSuns s = new TwoSuns(4, 4);
        for (int i = 0; i < 12; i++) {
            s.shadow(1, 0, 0, 1, 1, 0);
        }
        for (int i = 0; i < 8; i++) {
            s.shine(i);
        }
        int all = (1 << 20) - 1;
        b.due("the upright one", s.fight(all, 0), Bounds.lamp(0, 0, 1));
        b.due("all twenty let it", s.fight(all, 1), 20);
        b.due("none is left out", s.fight(all, 2), 0);
        TwoSuns t = Bounds.full();
        int out = t.fight(all, 2);
        b.due("let and left out are all", t.fight(all, 1) + Integer.bitCount(out), 20);
    }

    private void sunsOfTheEmptySet() {
        b.sentence("SUNS: how many (i NONE; 0 of the empty set)");
        TwoSuns s = new TwoSuns(4, 4);
        b.due("of a new object", s.suns(0, -1), 0);
        b.due("its first", s.suns(0, 0), -1);
        b.due("of a full one", Bounds.full().suns(0, -1), 0);
        b.due("its first", Bounds.full().suns(0, 0), -1);
    }

    /** Shadows 0 .. 3 each let a lamp that none of the others lets; 4 lets none; 5 lets those of 0 and 1. */
    private static TwoSuns fighting() {
        TwoSuns s = new TwoSuns(4, 4);
        s.shadow(10, -10, 0, 100, 100, 0);
        s.shadow(10, 10, 0, 100, 100, 0);
        s.shadow(10, 0, 10, 100, 100, 0);
        s.shadow(10, 0, -10, 100, 100, 0);
        s.shadow(1, 99, 0, 1, 1, 0);
        s.shadow(10, 0, 0, 1, 300, 20);
        return s;
    }

    private void sunsAsked() {
        b.sentence("the i-th LAMP");
        int[][] sets = {{1, 1}, {3, 2}, {7, 3}};
        for (int[] set : sets) {
            TwoSuns s = fighting();
            b.due("how many of " + set[0], s.suns(set[0], -1), set[1]);
            for (int i = 0; i < set[1]; i++) {
                b.due("sun " + i + " of " + set[0], s.suns(set[0], i) > 0, true);
            }
            b.due("one more of " + set[0], s.suns(set[0], set[1]), -1);
            b.due("i -2 of " + set[0], s.suns(set[0], -2), -1);
            b.due("least i of " + set[0], s.suns(set[0], MIN), -1);
            b.due("greatest i of " + set[0], s.suns(set[0], MAX), -1);
        }
        b.refused("i -2", -1, s -> s.suns(1, -2));
        b.refused("i 1 of one", -1, s -> s.suns(1, 1));
        TwoSuns asked = Bounds.busy();
        asked.suns(3 | 3 << 12, -1);
        asked.suns(3 | 3 << 12, 0);
        b.unchanged("suns only asks", asked, Bounds.busy());
    }

    private void threeAtMost() {
        b.sentence("the fewest LAMPS (3 at most) so that each SIGN of a set LETS one of them");
        TwoSuns s = fighting();
        b.due("three", s.suns(7, -1), 3);
        b.due("another three", s.suns(14, -1), 3);
        b.due("four would be needed", s.suns(15, -1), -1);
        for (int i = 0; i < 4; i++) {
            b.due("none of more than 3, sun " + i, s.suns(15, i), -1);
        }
        b.due("two for three signs, as one sun is let by two", s.suns(1 | 2 | 32, -1), 2);
        // Twelve signs: by one sun, six each by two, four each by three, three each by four.
        int[] counts = {1, 2, 3, -1};
        for (int kinds = 1; kinds <= 4; kinds++) {
            TwoSuns many = new TwoSuns(4, 4);
            int[][] tips = {{-10, 0}, {10, 0}, {0, -10}, {0, 10}};
            for (int i = 0; i < 12; i++) {
                many.shadow(10, tips[i % kinds][0], tips[i % kinds][1], 100, 100, 0);
            }
            b.due("twelve signs of " + kinds + " suns", many.suns(4095, -1), counts[kinds - 1]);
        }
        b.due("four signs, three suns", s.suns(7 | 32, -1), 3);
    }

    private void firstSuns() {
        b.sentence("the first such: of the first LAMP the lowest, then the second, third");
        TwoSuns s = fighting();
        int[] three = {Bounds.lamp(0, -1, 1), Bounds.lamp(-1, 0, 1), Bounds.lamp(1, 0, 1)};
        for (int i = 0; i < 3; i++) {
            b.due("of the three sun " + i, s.suns(7, i), three[i]);
        }
        int[] two = {Bounds.lamp(-1, 0, 1), Bounds.lamp(1, 0, 1)};
        for (int i = 0; i < 2; i++) {
            b.due("of the two sun " + i, s.suns(3, i), two[i]);
        }
        b.due("of one", s.suns(1, 0), Bounds.lamp(1, 0, 1));
        // A shine and a shadow that no lamp is let by both: the shine's first lamp stands ahead.
        TwoSuns t = new TwoSuns(4, 4);
        t.shadow(10, -10, 0, 100, 100, 0);
        t.shine(4);
        b.due("how many", t.suns(1 | FIRST_SHINE, -1), 2);
        b.due("the shine's", t.suns(1 | FIRST_SHINE, 0), Bounds.lamp(-5, -5, 1));
        b.due("the shadow's", t.suns(1 | FIRST_SHINE, 1), Bounds.lamp(1, 0, 1));
    }

    private void sunsBehindAWayBack() {
        b.sentence("the fewest LAMPS (3 at most) so that each SIGN of a set LETS one of them");
        TwoSuns s = new TwoSuns(4, 4);
        s.shadow(10, 0, 10, 100, 100, 0);
        s.shadow(10, 10, 0, 100, 100, 0);
        s.shadow(10, 0, -10, 100, 100, 0);
        s.shadow(10, 0, -10, 100, 100, 0);
        s.shadow(10, -10, 0, 100, 100, 0);
        b.due("four kinds are too many", s.suns(31, -1), -1);
        b.due("three", s.suns(15, -1), 3);
        s.back();
        s.shadow(10, 0, 10, 100, 100, 0);
        s.shadow(10, 0, 10, 100, 100, 0);
        s.shadow(10, 10, 0, 100, 100, 0);
        s.shadow(10, -10, 0, 100, 100, 0);
        // Shadows 2 and 3 were alike; now they are not, so one sun for both is gone.
        b.due("three again", s.suns(15, -1), 3);
        int[] three = {Bounds.lamp(0, -1, 1), Bounds.lamp(-1, 0, 1), Bounds.lamp(1, 0, 1)};
        for (int i = 0; i < 3; i++) {
            b.due("sun " + i, s.suns(15, i), three[i]);
        }
        b.due("two for those that were alike", s.suns(12, -1), 2);
        b.due("one for those that are", s.suns(3, -1), 1);
    }

    private void signThatLetsNone() {
        b.sentence("NONE: more than 3, if there is none such");
        TwoSuns s = fighting();
        b.due("alone", s.suns(16, -1), -1);
        b.due("its first", s.suns(16, 0), -1);
        b.due("with another", s.suns(17, -1), -1);
    }

    private void lineForOthers() {
        b.sentence("from a point to another one (-99 .. 99 each, unlike)");
        b.range("ax", -99, 99, -1, (s, v) -> s.line(v, 1, 2, 3));
        b.range("ay", -99, 99, -1, (s, v) -> s.line(1, v, 2, 3));
        b.range("bx", -99, 99, -1, (s, v) -> s.line(1, 2, v, 3));
        b.range("by", -99, 99, -1, (s, v) -> s.line(1, 2, 3, v));
    }

    private void unlikeEnds() {
        b.sentence("-99 .. 99 each, unlike");
        int[][] points = {{0, 0}, {-99, 99}, {99, -99}, {3, 3}};
        for (int[] p : points) {
            b.refused("like ends", -1, s -> s.line(p[0], p[1], p[0], p[1]));
        }
        int[][] near = {{4, 5, 5, 5}, {4, 5, 4, 6}, {4, 5, 3, 5}, {4, 5, 4, 4}, {4, 5, 5, 4}, {99, 99, 99, 98}};
        for (int[] n : near) {
            b.due("ends that are one apart", new TwoSuns(4, 4).line(n[0], n[1], n[2], n[3]), 0);
        }
    }

    private void tenLines() {
        b.sentence("LINES (10 at most)");
        TwoSuns s = new TwoSuns(4, 4);
        for (int i = 0; i < 10; i++) {
            b.due("its number", s.line(i, 0, i, 1), i);
            b.due("so many", s.about(4), i + 1);
        }
        b.sentence("A LINE: its number. NONE for others, or if there are 10");
        b.due("an eleventh", s.line(0, 0, 1, 1), -1);
        b.due("still 10", s.about(4), 10);
        b.refusedWhenFull("an eleventh", -1, f -> f.line(0, 0, 1, 1));
        b.refusedWhenFull("a wrong eleventh", -1, f -> f.line(0, 0, 0, 0));
        s.back();
        b.due("room again behind a way back", s.line(0, 0, 1, 1), 0);
    }

    private void meetForOthers() {
        b.sentence("SLACK 0 .. 9");
        for (int what = 0; what < 4; what++) {
            int asked = what;
            b.asking("slack for " + what, 0, 9, -1000, (s, v) -> s.meet(v, asked));
        }
        b.sentence("3 those that don't (bits). -1000 for others");
        b.asking("meet's what", 0, 3, -1000, (s, v) -> s.meet(0, v));
        b.asking("meet's what by 9", 0, 3, -1000, (s, v) -> s.meet(9, v));
    }

    private void withoutLines() {
        b.sentence("-1000 for others, and without LINES");
        TwoSuns s = new TwoSuns(4, 4);
        for (int what = -1; what <= 4; what++) {
            b.due("what " + what, s.meet(0, what), -1000);
            b.due("what " + what + " by 9", s.meet(9, what), -1000);
        }
        s.line(0, 0, 1, 0);
        b.due("with one", s.meet(0, 2), 1);
        s.back();
        b.due("without one behind a way back", s.meet(0, 2), -1000);
        b.due("nor where", s.meet(0, 0), -1000);
    }

    private void meets(TwoSuns s, int slack, int... answers) {
        for (int what = 0; what < 4; what++) {
            b.due("by " + slack + " the answer to " + what, s.meet(slack, what), answers[what]);
        }
    }

    /** Two lines, one upright and one level, that meet at a point. */
    private static TwoSuns crossing(int x, int y) {
        TwoSuns s = new TwoSuns(4, 4);
        s.line(x, -3, x, 3);
        s.line(-3, y, 3, y);
        return s;
    }

    private void pointsUpToForty() {
        b.sentence("MEET: of points x, y -40 .. 40 that through which most go");
        for (int y : new int[] {-40, -39, 0, 39, 40}) {
            for (int x : new int[] {-40, -39, 0, 39, 40}) {
                meets(crossing(x, y), 0, x, y, 2, 0);
            }
        }
        // At 41 they meet outside, so it is one line's first point: the upright one's by y, unless it is outside.
        meets(crossing(41, 7), 0, -40, 7, 1, 1);
        meets(crossing(-41, 7), 0, -40, 7, 1, 1);
        meets(crossing(7, 41), 0, 7, -40, 1, 2);
        meets(crossing(7, -41), 0, 7, -40, 1, 2);
    }

    private void likePoints() {
        b.sentence("of like ones the first by y, then x");
        TwoSuns level = new TwoSuns(4, 4);
        level.line(0, 5, 1, 5);
        meets(level, 0, -40, 5, 1, 0);
        TwoSuns upright = new TwoSuns(4, 4);
        upright.line(5, 0, 5, 1);
        meets(upright, 0, 5, -40, 1, 0);
        // Two upright ones: the first point of either is in the same row, the left one is the first.
        upright.line(-5, 0, -5, 1);
        meets(upright, 0, -5, -40, 1, 1);
        // Two crossings: (0, 9) and (30, 2): y goes ahead of x.
        TwoSuns s = new TwoSuns(4, 4);
        s.line(0, 0, 0, 1);
        s.line(0, 9, 1, 9);
        s.line(30, 0, 30, 1);
        s.line(0, 2, 1, 2);
        meets(s, 0, 0, 2, 2, 2 | 4);
    }

    private void throughBySlack() {
        b.sentence("a LINE goes through a point if |cross| <= SLACK * (|ux| + |uy|)");
        // u (2, 1): |2 y - x| <= 3 SLACK; by 2 at x -40: 2 y + 40 >= -6, so y -23 just so.
        TwoSuns s = new TwoSuns(4, 4);
        s.line(0, 0, 2, 1);
        meets(s, 2, -40, -23, 1, 0);
        // By 1: 2 y + 40 >= -3, so y -21; by 0: y -20.
        meets(s, 1, -40, -21, 1, 0);
        meets(s, 0, -40, -20, 1, 0);
        // The same line the other way round, and the same doubled.
        TwoSuns t = new TwoSuns(4, 4);
        t.line(2, 1, 0, 0);
        t.line(-4, -2, 4, 2);
        meets(t, 2, -40, -23, 2, 0);
        // Upright ones beyond the points: 9 off is reached by 9, 10 off is not.
        for (int side = -1; side <= 1; side += 2) {
            meets(upright(side * 49), 9, side * 40, -40, 1, 0);
            meets(upright(side * 49), 8, -40, -40, 0, 1);
            meets(upright(side * 50), 9, -40, -40, 0, 1);
            meets(upright(side * 41), 1, side * 40, -40, 1, 0);
            meets(upright(side * 41), 0, -40, -40, 0, 1);
        }
        meets(level(49), 9, -40, 40, 1, 0);
        meets(level(50), 9, -40, -40, 0, 1);
        meets(level(-49), 9, -40, -40, 1, 0);
        meets(level(-50), 9, -40, -40, 0, 1);
    }

    private static TwoSuns upright(int x) {
        TwoSuns s = new TwoSuns(4, 4);
        s.line(x, -99, x, 99);
        return s;
    }

    private static TwoSuns level(int y) {
        TwoSuns s = new TwoSuns(4, 4);
        s.line(99, y, -99, y);
        return s;
    }

    private void noLineThrough() {
        b.sentence("that through which most go, of like ones the first by y, then x");
        TwoSuns s = new TwoSuns(4, 4);
        s.line(-99, 99, 99, 99);
        s.line(99, -99, 99, 99);
        meets(s, 9, -40, -40, 0, 3);
    }

    private void bitsOfLines() {
        b.sentence("2 how many go through it, 3 those that don't (bits)");
        TwoSuns s = new TwoSuns(4, 4);
        for (int i = 0; i < 9; i++) {
            s.line(0, 0, i - 4, 9);
        }
        meets(s, 0, 0, 0, 9, 0);
        s.line(50, 50, 51, 50);
        meets(s, 0, 0, 0, 9, 1 << 9);
        TwoSuns t = new TwoSuns(4, 4);
        t.line(50, 50, 51, 50);
        for (int i = 0; i < 9; i++) {
            t.line(0, 0, i - 4, 9);
        }
        meets(t, 0, 0, 0, 9, 1);
        TwoSuns far = new TwoSuns(4, 4);
        for (int i = 0; i < 10; i++) {
            far.line(90, i, 90, 50);
        }
        meets(far, 0, -40, -40, 0, 1023);
        // Each line of the ten, the first and the last too, reaches by slack.
        for (int odd = 0; odd < 10; odd++) {
            TwoSuns u = new TwoSuns(4, 4);
            for (int i = 0; i < 10; i++) {
                if (i == odd) {
                    u.line(0, -38, 10, -38);
                } else {
                    u.line(5, 0, 5, 9);
                }
            }
            // The upright ones reach x 4 .. 6, the level one y -39 .. -37.
            meets(u, 1, 4, -39, 10, 0);
            meets(u, 0, 5, -38, 10, 0);
        }
    }
}
