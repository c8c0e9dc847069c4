/** The sentences of the document that name a boundary case of acts and stories: promises 22 and 23, and their terms. */
public final class BoundsOfActsTest {
    private static final int MIN = Bounds.MIN;
    private static final int MAX = Bounds.MAX;
    private static final String KEEP = "keep 2 0 0;";

    private final Bounds b = new Bounds("bounds of acts");

    public static void main(String[] args) {
        BoundsOfActsTest t = new BoundsOfActsTest();
        t.acts();
        t.sums();
        t.fields();
        t.keeping();
        t.rounds();
        t.stories();
        t.b.finish();
    }

    private void acts() {
        actForOthers();
        actsAreCounted();
        endsAt300();
        repeatAsItIsComeTo();
    }

    private void sums() {
        cutsTowardsZero();
        byZero();
        aboveAMillion();
        belowTheSameLess();
        atEachStep();
        lightOfASum();
        neighboursOfTheEdge();
    }

    private void fields() {
        paintBeyond();
        flipBeyond();
        flipOfAnyWidth();
        pasteBeyond();
        whatPHasNot();
        aheadOfThisAct();
        pastedPictures();
    }

    private void keeping() {
        ofTwoTheLower();
        multiplesUpTo99();
        cornersModFour();
        squaresThatLieWhole();
    }

    private void rounds() {
        roundsOfARepeat();
        innermostRound();
        withoutARepeat();
    }

    private void stories() {
        storyForOthers();
        storyOfNone();
        threeTextsAtMost();
        firstOfLikeOnes();
        howManySuch();
        noneSuch();
        textsThatAreGone();
        storyOfItself();
        eachTextHas300Acts();
        picturesOfAStory();
    }

    /** Picture 0 has light 10 y + x. */
    private static TwoSuns numbered(int w, int h) {
        TwoSuns s = new TwoSuns(w, h);
        for (int i = 0; i < w * h; i++) {
            s.light(0, i % w, i / w, 10 * (i / w) + i % w);
        }
        return s;
    }

    private void makes(String text, TwoSuns s, int acts, String want) {
        int number = Due.read(s, text);
        b.due("acts of " + text, s.act(number, 0), acts);
        b.due(text, Due.shown(s, 0), want);
    }

    private void actForOthers() {
        b.sentence("A TEXT is done to a PICTURE: how many ACTS. NONE for others");
        b.range("act's text", 0, 1, -1, (s, v) -> s.act(v, 0));
        b.range("act's picture", 0, 4, -1, (s, v) -> s.act(0, v));
        b.refused("neither", -1, s -> s.act(2, 5));
        TwoSuns none = new TwoSuns(4, 4);
        b.due("without texts", none.act(0, 0), -1);
        TwoSuns full = Bounds.full();
        b.due("the sixth", full.act(5, 0), 1);
        b.due("a seventh", full.act(6, 0), -1);
        full.back();
        b.due("none behind a way back", full.act(0, 0), -1);
    }

    private int actsOf(String text) {
        TwoSuns s = new TwoSuns(4, 4);
        return s.act(Due.read(s, text), 0);
    }

    private void actsAreCounted() {
        b.sentence("how many ACTS");
        b.due("of none", actsOf(""), 0);
        b.due("of one", actsOf(KEEP), 1);
        b.due("of sixteen", actsOf(KEEP.repeat(16)), 16);
        b.due("of one beyond the picture", actsOf("paint 99 99 1 1 1;"), 1);
        // The sixteenth is done with all of its numbers, whichever act it is.
        String[] last = {"paint 3 1 1 1 7;", "paste 1 2 0 1 1 to 3 1;", "flip 2 1 2 1;", "keep 10 0 0;", "repeat 9{}"};
        int[] lights = {7, 8, 6, 10, 9};
        for (int i = 0; i < last.length; i++) {
            TwoSuns s = new TwoSuns(4, 4);
            s.light(0, 3, 1, 9);
            s.light(0, 2, 1, 6);
            s.light(1, 2, 0, 8);
            Due.read(s, "flip 0 0 1 1;".repeat(15) + last[i]);
            b.due("sixteen acts, the last " + last[i], s.act(0, 0), 16);
            b.due(last[i] + " is done", s.at(0, 3, 1), lights[i]);
        }
        b.due("of a paste that puts nothing", actsOf("paste 4 99 99 1 1 to 0 0;"), 1);
    }

    /** Of 299 acts, all without an effect on a dark picture, and then some more. */
    private static String behind299(String more) {
        String keeps = KEEP.repeat(3);
        // 1 + 9 (1 + 9 * 3) = 253, 1 + 9 * 4 = 37, 1 + 8 = 9.
        return "repeat 9{repeat 9{" + keeps + "}}repeat 9{" + keeps + KEEP + "}repeat 8{" + KEEP + "}" + more;
    }

    private void endsAt300() {
        b.sentence("It ends at 300 ACTS (each one that is done, repeat as it is come to)");
        b.due("299", actsOf(behind299("")), 299);
        TwoSuns s = new TwoSuns(4, 4);
        Due.read(s, behind299("paint 0 0 1 1 7;"));
        b.due("300", s.act(0, 0), 300);
        b.due("the 300th is done", s.at(0, 0, 0), 7);
        TwoSuns t = new TwoSuns(4, 4);
        Due.read(t, behind299("paint 0 0 1 1 7;paint 1 0 1 1 8;"));
        b.due("a 301st", t.act(0, 0), 300);
        b.due("the 300th is done", t.at(0, 0, 0), 7);
        b.due("the 301st is not", t.at(0, 1, 0), 0);
        b.due("done again it is the same", t.act(0, 0), 300);
        b.due("the 301st is not done again", t.at(0, 1, 0), 0);
        b.due("far more", actsOf("repeat 9{".repeat(8) + KEEP + "}".repeat(8)), 300);
        TwoSuns deep = new TwoSuns(4, 4);
        Due.read(deep, "repeat 9{repeat 9{repeat 9{paint 1 1 1 1 light+1;}}}");
        b.due("within repeats", deep.act(0, 0), 300);
        // Far more than 99 paints are among the 300.
        b.due("the cell", deep.at(0, 1, 1), 99);
        TwoSuns count = new TwoSuns(4, 4);
        Due.read(count, "repeat 9{repeat 9{" + KEEP.repeat(3) + "}}repeat 9{repeat 9{paint 1 1 1 1 light+1;}}");
        b.due("cut within a round", count.act(0, 0), 300);
        // 253, the repeat is the 254th; rounds of 10 with 9 paints: four are 40, then 1 and 5 paints.
        b.due("so many paints", count.at(0, 1, 1), 4 * 9 + 5);
    }

    private void repeatAsItIsComeTo() {
        b.sentence("(each one that is done, repeat as it is come to)");
        b.due("an empty one", actsOf("repeat 9{}"), 1);
        b.due("of one act", actsOf("repeat 9{" + KEEP + "}"), 10);
        b.due("one in another one", actsOf("repeat 3{repeat 2{}}"), 4);
        b.due("one in another one with acts", actsOf("repeat 3{repeat 2{" + KEEP + "}" + KEEP + "}"), 1 + 3 * (1 + 2 + 1));
        TwoSuns s = new TwoSuns(4, 4);
        Due.read(s, behind299("repeat 9{paint 0 0 1 1 7;}"));
        b.due("a repeat is the 300th", s.act(0, 0), 300);
        b.due("nothing within it is done", s.at(0, 0, 0), 0);
        b.due("only repeats", actsOf("repeat 9{".repeat(8) + "}".repeat(8)), 300);
        b.due("81 + 9 + 1", actsOf("repeat 9{repeat 9{repeat 1{}}}"), 91);
    }

    /** What a sum comes to in a cell that had light 0; it has the left one 7, the upper one 9, x 1 and y 2. */
    private void comesTo(String sum, int want) {
        TwoSuns s = new TwoSuns(4, 4);
        s.light(0, 0, 2, 7);
        s.light(0, 1, 1, 9);
        int number = Due.read(s, "paint 1 2 1 1 " + sum + ";");
        b.due("acts of " + sum, s.act(number, 0), 1);
        b.due(sum, s.at(0, 1, 2), want);
    }

    private void cutsTowardsZero() {
        b.sentence("/ cuts towards 0");
        comesTo("50+6/2", 53);
        comesTo("50+7/2", 53);
        comesTo("50+8/2", 54);
        comesTo("50+-6/2", 47);
        comesTo("50+-7/2", 47);
        comesTo("50+-8/2", 46);
        comesTo("50+7/-2", 47);
        comesTo("50+-7/-2", 53);
        comesTo("50+1/2", 50);
        comesTo("50+-1/2", 50);
        comesTo("50+1/-2", 50);
        comesTo("50-1/2", 50);
        comesTo("50+(0-1)/2", 50);
        comesTo("50+(0-999)/999", 49);
        comesTo("50+(0-998)/999", 50);
        comesTo("50+0/5", 50);
    }

    private void byZero() {
        b.sentence("by 0 it is 0");
        comesTo("5/0", 0);
        comesTo("50+5/0", 50);
        comesTo("50+-5/0", 50);
        comesTo("50+0/0", 50);
        comesTo("50+5/(1-1)", 50);
        comesTo("50+5/light", 50);
        comesTo("50+5/0*9+1", 51);
        comesTo("50+5/(5/0)", 50);
        comesTo("50+5/-0", 50);
        comesTo("50+5/1", 55);
        comesTo("50+5/-1", 45);
        comesTo("50+999*999*2/0", 50);
    }

    private void aboveAMillion() {
        b.sentence("what is above 1000000 (below the same less) is that");
        // 999 * 999 + 999 + 999 is 999999.
        String back = "-999*999-999-950";
        comesTo("999*999+999+999" + back, 49);
        comesTo("999*999+999+999+1" + back, 50);
        comesTo("999*999+999+999+2" + back, 50);
        comesTo("999*999+999+999+999" + back, 50);
        comesTo("(999+1)*999-999*999-950", 49);
        comesTo("(999+1)*(999+1)" + back, 50);
        comesTo("(999+1)*(999+2)" + back, 50);
        comesTo("999*999*999" + back, 50);
        comesTo("999*999--999--999" + back, 49);
        comesTo("999*999--999--999--2" + back, 50);
        // 1000000 * 1000000 doesn't go into 32 bits.
        comesTo("(999*999*2)*(999*999*2)" + back, 50);
        comesTo("(999*999*2)*(999*999*2)/200/100", 50);
        comesTo("-(999*999*2)*-(999*999*2)" + back, 50);
    }

    private void belowTheSameLess() {
        b.sentence("(below the same less)");
        String back = "+999*999+999+999+51";
        comesTo("0-999*999-999-999" + back, 51);
        comesTo("0-999*999-999-999-1" + back, 50);
        comesTo("0-999*999-999-999-2" + back, 50);
        comesTo("0-999*999-999-999-999" + back, 50);
        comesTo("-(999+1)*(999+1)" + back, 50);
        comesTo("-(999+1)*(999+2)" + back, 50);
        comesTo("-(999*999*2)" + back, 50);
        comesTo("-(999*999*2)*(999*999*2)" + back, 50);
        comesTo("(999*999*2)*-(999*999*2)" + back, 50);
        comesTo("100+-(999*999*2)*(999*999*2)/200/100", 50);
    }

    private void atEachStep() {
        b.sentence("is that, at each step");
        String back = "-999*999-999-950";
        comesTo("999*999+999+999+2-1" + back, 49);
        comesTo("999*999+999+999+(2-1)" + back, 50);
        comesTo("999*999*2-999*999-999-950", 50);
        // 1000000 / 999 is 1001.
        comesTo("999*999*999/999+50-999-2", 50);
        comesTo("0-999*999-999-999-2+1+999*999+999+999+51", 51);
        comesTo("(999*999*2)-(999*999*2)+50", 50);
        comesTo("(999*999*2)-(999*999+999+999)+50", 51);
    }

    private void lightOfASum() {
        b.sentence("LIGHT is SUM, 0 at least, 99 at most");
        comesTo("0-1", 0);
        comesTo("-1", 0);
        comesTo("0", 0);
        comesTo("1", 1);
        comesTo("98", 98);
        comesTo("99", 99);
        comesTo("100", 99);
        comesTo("999", 99);
        comesTo("999*999*2", 99);
        comesTo("-999*999*2", 0);
    }

    private void neighboursOfTheEdge() {
        b.sentence("left, up (LIGHT of the CELL to the left, above, as it is then; 0 without)");
        comesTo("left", 7);
        comesTo("up", 9);
        TwoSuns s = numbered(4, 4);
        // The cell ahead of a row's first one in the picture is the last of the row above.
        makes("paint 0 1 1 1 left+50;paint 0 2 1 1 left+60;paint 0 0 1 1 left+up+70;paint 3 0 1 1 up+80;paint 1 0 1 1 left;", s, 5,
                "70 70 2 80/50 11 12 13/60 21 22 23/30 31 32 33/");
        // As it is then: each cell that is painted is there for the next one, row by row.
        makes("paint 0 0 9 9 left+up+1;", new TwoSuns(4, 4), 1, "1 2 3 4/2 5 9 14/3 9 19 34/4 14 34 69/");
        // The field's edge is not the picture's.
        makes("paint 1 1 2 2 left+up;", numbered(4, 4), 1, "0 1 2 3/10 11 13 13/20 31 44 23/30 31 32 33/");
        makes("paint 0 0 1 1 x+y+5;paint 3 3 1 1 x*10+y;", numbered(4, 4), 2, "5 1 2 3/10 11 12 13/20 21 22 23/30 31 32 33/");
    }

    private void paintBeyond() {
        b.sentence("what a FIELD has beyond it doesn't count");
        String as = "0 1 2 3/10 11 12 13/20 21 22 23/30 31 32 33/";
        makes("paint 3 3 1 1 99;", numbered(4, 4), 1, "0 1 2 3/10 11 12 13/20 21 22 23/30 31 32 99/");
        makes("paint 3 3 2 2 99;", numbered(4, 4), 1, "0 1 2 3/10 11 12 13/20 21 22 23/30 31 32 99/");
        makes("paint 3 3 99 99 99;", numbered(4, 4), 1, "0 1 2 3/10 11 12 13/20 21 22 23/30 31 32 99/");
        makes("paint 4 0 1 1 99;paint 0 4 1 1 99;paint 99 99 99 99 99;", numbered(4, 4), 3, as);
        makes("paint 0 0 4 1 99;", numbered(4, 4), 1, "99 99 99 99/10 11 12 13/20 21 22 23/30 31 32 33/");
        makes("paint 2 0 3 1 99;", numbered(4, 4), 1, "0 1 99 99/10 11 12 13/20 21 22 23/30 31 32 33/");
        makes("paint 0 2 1 3 99;", numbered(4, 4), 1, "0 1 2 3/10 11 12 13/99 21 22 23/99 31 32 33/");
    }

    private void flipBeyond() {
        b.sentence("flip: the FIELD (where it is in the PICTURE) is turned left to right");
        String as = "0 1 2 3/10 11 12 13/20 21 22 23/30 31 32 33/";
        makes("flip 0 0 4 1;", numbered(4, 4), 1, "3 2 1 0/10 11 12 13/20 21 22 23/30 31 32 33/");
        makes("flip 0 0 5 1;", numbered(4, 4), 1, "3 2 1 0/10 11 12 13/20 21 22 23/30 31 32 33/");
        makes("flip 0 0 99 1;", numbered(4, 4), 1, "3 2 1 0/10 11 12 13/20 21 22 23/30 31 32 33/");
        makes("flip 2 3 99 99;", numbered(4, 4), 1, "0 1 2 3/10 11 12 13/20 21 22 23/30 31 33 32/");
        makes("flip 3 0 99 99;flip 4 0 99 99;flip 0 4 99 99;flip 99 99 99 99;", numbered(4, 4), 4, as);
        makes("flip 1 2 9 1;", numbered(4, 4), 1, "0 1 2 3/10 11 12 13/20 23 22 21/30 31 32 33/");
    }

    private void flipOfAnyWidth() {
        b.sentence("is turned left to right");
        makes("flip 0 0 1 4;", numbered(4, 4), 1, "0 1 2 3/10 11 12 13/20 21 22 23/30 31 32 33/");
        makes("flip 0 0 2 4;", numbered(4, 4), 1, "1 0 2 3/11 10 12 13/21 20 22 23/31 30 32 33/");
        makes("flip 0 0 3 4;", numbered(4, 4), 1, "2 1 0 3/12 11 10 13/22 21 20 23/32 31 30 33/");
        makes("flip 0 0 4 4;", numbered(4, 4), 1, "3 2 1 0/13 12 11 10/23 22 21 20/33 32 31 30/");
        makes("flip 1 1 2 2;flip 1 1 2 2;", numbered(4, 4), 2, "0 1 2 3/10 11 12 13/20 21 22 23/30 31 32 33/");
    }

    private void pasteBeyond() {
        b.sentence("is put with its corner there");
        String dark = "0 0 0 0/0 0 0 0/0 0 0 0/0 0 0 0/";
        pastes("paste 1 0 0 4 4 to 3 3;", "0 0 0 0/0 0 0 0/0 0 0 0/0 0 0 11/");
        pastes("paste 1 0 0 4 4 to 3 0;", "0 0 0 11/0 0 0 21/0 0 0 31/0 0 0 41/");
        pastes("paste 1 0 0 4 4 to 0 3;", "0 0 0 0/0 0 0 0/0 0 0 0/11 12 13 14/");
        pastes("paste 1 0 0 4 4 to 4 0;", dark);
        pastes("paste 1 0 0 4 4 to 0 4;", dark);
        pastes("paste 1 0 0 99 99 to 99 99;", dark);
        pastes("paste 1 0 0 1 1 to 3 3;", "0 0 0 0/0 0 0 0/0 0 0 0/0 0 0 11/");
        pastes("paste 1 3 3 1 1 to 0 0;", "44 0 0 0/0 0 0 0/0 0 0 0/0 0 0 0/");
    }

    /** Picture 1 has light 11 .. 44, picture 0 is dark. */
    private void pastes(String text, String want) {
        TwoSuns s = new TwoSuns(4, 4);
        for (int i = 0; i < 16; i++) {
            s.light(1, i % 4, i / 4, 10 * (i / 4) + i % 4 + 11);
        }
        makes(text, s, 1, want);
        b.due("the other picture stays", s.at(1, 3, 3), 44);
    }

    private void whatPHasNot() {
        b.sentence("what P has not isn't put");
        pastes("paste 1 4 0 4 4 to 0 0;", "0 0 0 0/0 0 0 0/0 0 0 0/0 0 0 0/");
        pastes("paste 1 3 3 9 9 to 1 1;", "0 0 0 0/0 44 0 0/0 0 0 0/0 0 0 0/");
        pastes("paste 1 2 0 9 1 to 0 0;", "13 14 0 0/0 0 0 0/0 0 0 0/0 0 0 0/");
        // Where nothing is put the light stays, it isn't made dark.
        TwoSuns s = numbered(4, 4);
        makes("paste 1 3 3 9 9 to 1 1;paste 1 4 4 9 9 to 0 0;paste 1 99 0 99 99 to 0 0;", s, 3, "0 1 2 3/10 0 12 13/20 21 22 23/30 31 32 33/");
    }

    private void aheadOfThisAct() {
        b.sentence("the FIELD of P (as it was ahead of this ACT");
        makes("paste 0 0 0 3 1 to 1 0;", numbered(4, 4), 1, "0 0 1 2/10 11 12 13/20 21 22 23/30 31 32 33/");
        makes("paste 0 1 0 3 1 to 0 0;", numbered(4, 4), 1, "1 2 3 3/10 11 12 13/20 21 22 23/30 31 32 33/");
        makes("paste 0 0 0 1 3 to 0 1;", numbered(4, 4), 1, "0 1 2 3/0 11 12 13/10 21 22 23/20 31 32 33/");
        makes("paste 0 0 0 4 4 to 1 1;", numbered(4, 4), 1, "0 1 2 3/10 0 1 2/20 10 11 12/30 20 21 22/");
        makes("paste 0 1 1 4 4 to 0 0;", numbered(4, 4), 1, "11 12 13 3/21 22 23 13/31 32 33 23/30 31 32 33/");
        // Of two acts the second has what the first one made.
        makes("paste 0 0 0 1 1 to 1 0;paste 0 1 0 1 1 to 2 0;", numbered(4, 4), 2, "0 0 0 3/10 11 12 13/20 21 22 23/30 31 32 33/");
        makes("repeat 3{paste 0 0 0 3 1 to 1 0;}", numbered(4, 4), 4, "0 0 0 0/10 11 12 13/20 21 22 23/30 31 32 33/");
    }

    private void pastedPictures() {
        b.sentence("P 0 .. 4");
        for (int picture = 0; picture <= 4; picture++) {
            TwoSuns s = new TwoSuns(4, 4);
            for (int i = 0; i < 5; i++) {
                s.light(i, 2, 2, 60 + i);
            }
            Due.read(s, "paste " + picture + " 2 2 1 1 to 0 0;");
            s.act(0, 3);
            b.due("of picture " + picture, s.at(3, 0, 0), 60 + picture);
        }
    }

    /** What a light becomes by a keep of n. */
    private void keeps(int n, int light, int want) {
        TwoSuns s = new TwoSuns(4, 4);
        s.light(0, 3, 3, light);
        Due.read(s, "keep " + n + " 0 0;");
        s.act(0, 0);
        b.due("light " + light + " by " + n, s.at(0, 3, 3), want);
    }

    private void ofTwoTheLower() {
        b.sentence("each LIGHT is the nearest multiple of n (of two the lower, 99 at most)");
        int[][] cases = {
            {10, 4, 0}, {10, 5, 0}, {10, 6, 10}, {10, 10, 10}, {10, 14, 10}, {10, 15, 10}, {10, 16, 20}, {10, 84, 80}, {10, 85, 80}, {10, 86, 90},
            {2, 0, 0}, {2, 1, 0}, {2, 2, 2}, {2, 3, 2}, {2, 97, 96}, {2, 98, 98}, {2, 99, 98},
            {3, 1, 0}, {3, 2, 3}, {3, 98, 99}, {3, 97, 96}, {3, 99, 99},
            {50, 24, 0}, {50, 25, 0}, {50, 26, 50}, {50, 74, 50}, {50, 75, 50},
            {49, 24, 0}, {49, 25, 49}, {49, 73, 49}, {49, 74, 98}, {49, 99, 98}};
        for (int[] c : cases) {
            keeps(c[0], c[1], c[2]);
        }
    }

    private void multiplesUpTo99() {
        b.sentence("of two the lower, 99 at most");
        int[][] cases = {
            {50, 76, 99}, {50, 99, 99}, {10, 94, 90}, {10, 95, 90}, {10, 96, 99}, {10, 99, 99}, {34, 84, 68}, {34, 85, 68}, {34, 86, 99},
            {34, 99, 99}, {4, 97, 96}, {4, 98, 96}, {4, 99, 99}, {33, 99, 99}, {33, 83, 99}, {33, 82, 66}, {25, 99, 99}, {20, 91, 99}, {20, 90, 80}};
        for (int[] c : cases) {
            keeps(c[0], c[1], c[2]);
        }
    }

    /** All cells of light 6 become 10 where they are kept. */
    private void keepsCells(int w, int h, String act, int left, int top, int right, int bottom) {
        TwoSuns s = new TwoSuns(w, h);
        for (int i = 0; i < w * h; i++) {
            s.light(0, i % w, i / w, 6);
        }
        Due.read(s, act);
        s.act(0, 0);
        for (int i = 0; i < w * h; i++) {
            boolean kept = i % w >= left && i % w < right && i / w >= top && i / w < bottom;
            b.due(act + " of " + w + " by " + h + " at " + i % w + " " + i / w, s.at(0, i % w, i / w), kept ? 10 : 6);
        }
    }

    private void cornersModFour() {
        b.sentence("in all 4 by 4 squares from corner x mod 4, y mod 4 on");
        for (int x : new int[] {0, 1, 2, 3, 4, 5, 7, 8, 11, 12, 96, 98, 99}) {
            int corner = x % 4;
            keepsCells(7, 7, "keep 10 " + x + " 0;", corner, 0, corner + 4, 4);
            keepsCells(7, 7, "keep 10 0 " + x + ";", 0, corner, 4, corner + 4);
        }
    }

    private void squaresThatLieWhole() {
        b.sentence("that lie in the PICTURE whole");
        keepsCells(4, 4, "keep 10 0 0;", 0, 0, 4, 4);
        keepsCells(4, 4, "keep 10 1 0;", 0, 0, 0, 0);
        keepsCells(4, 4, "keep 10 0 1;", 0, 0, 0, 0);
        keepsCells(4, 4, "keep 10 3 3;", 0, 0, 0, 0);
        keepsCells(6, 4, "keep 10 3 0;", 0, 0, 0, 0);
        keepsCells(7, 4, "keep 10 3 0;", 3, 0, 7, 4);
        keepsCells(8, 4, "keep 10 3 0;", 3, 0, 7, 4);
        keepsCells(4, 6, "keep 10 0 3;", 0, 0, 0, 0);
        keepsCells(4, 7, "keep 10 0 3;", 0, 3, 4, 7);
        keepsCells(7, 5, "keep 10 0 0;", 0, 0, 4, 4);
        keepsCells(8, 5, "keep 10 0 1;", 0, 1, 8, 5);
        keepsCells(12, 12, "keep 10 0 0;", 0, 0, 12, 12);
        keepsCells(12, 12, "keep 10 1 2;", 1, 2, 9, 10);
        keepsCells(11, 11, "keep 10 3 3;", 3, 3, 11, 11);
    }

    private void roundsOfARepeat() {
        b.sentence("repeat NUMBER { {ACT} } (1 .. 9)");
        for (int rounds : new int[] {1, 2, 8, 9}) {
            TwoSuns s = new TwoSuns(4, 4);
            Due.read(s, "repeat " + rounds + "{paint 0 0 1 1 light+1;}");
            b.due("acts of " + rounds, s.act(0, 0), rounds + 1);
            b.due("done so often", s.at(0, 0, 0), rounds);
        }
        makes("repeat 1{}paint 0 0 1 1 5;", new TwoSuns(4, 4), 2, "5 0 0 0/0 0 0 0/0 0 0 0/0 0 0 0/");
        TwoSuns deep = new TwoSuns(4, 4);
        Due.read(deep, "repeat 1{".repeat(7) + "repeat 9{paint 0 0 1 1 light+round+1;}" + "}".repeat(7));
        b.due("eight around one another", deep.act(0, 0), 8 + 9);
        b.due("1 + .. + 9", deep.at(0, 0, 0), 45);
    }

    private void innermostRound() {
        b.sentence("round (of the innermost repeat around: 0, 1, ..; 0 without)");
        makes("repeat 9{paint 0 0 1 1 round;}", new TwoSuns(4, 4), 10, "8 0 0 0/0 0 0 0/0 0 0 0/0 0 0 0/");
        makes("repeat 1{paint 0 0 1 1 round+5;}", new TwoSuns(4, 4), 2, "5 0 0 0/0 0 0 0/0 0 0 0/0 0 0 0/");
        // 0, 1 within, twice, then the outer one again behind the inner one.
        makes("repeat 3{repeat 2{paint 0 0 1 1 light+round;}paint 1 0 1 1 light*3+round;paint 2 0 1 1 round;}", new TwoSuns(4, 4), 1 + 3 * 5,
                "3 5 2 0/0 0 0 0/0 0 0 0/0 0 0 0/");
        makes("repeat 2{repeat 3{paint 0 0 4 1 x*round;}}", new TwoSuns(4, 4), 1 + 2 * 4, "0 2 4 6/0 0 0 0/0 0 0 0/0 0 0 0/");
    }

    private void withoutARepeat() {
        b.sentence("0 without");
        makes("paint 0 0 1 1 round+7;", new TwoSuns(4, 4), 1, "7 0 0 0/0 0 0 0/0 0 0 0/0 0 0 0/");
        makes("repeat 5{}paint 0 0 1 1 round+7;", new TwoSuns(4, 4), 2, "7 0 0 0/0 0 0 0/0 0 0 0/0 0 0 0/");
        makes("repeat 3{paint 1 0 1 1 round;}paint 0 0 1 1 round+7;", new TwoSuns(4, 4), 5, "7 2 0 0/0 0 0 0/0 0 0 0/0 0 0 0/");
    }

    private static int story(TwoSuns s, int i) {
        return s.story(0, 1, i);
    }

    /** Picture 1 has light v at (0, 0); texts that add so much to it there. */
    private static TwoSuns adding(int v, int... added) {
        TwoSuns s = new TwoSuns(4, 4);
        s.light(1, 0, 0, v);
        for (int a : added) {
            Due.read(s, "paint 0 0 1 1 light+" + a + ";");
        }
        return s;
    }

    private void storyForOthers() {
        b.sentence("NONE: there is none, none such, and for others");
        b.asking("story's both", 0, 4, -1, (s, v) -> s.story(v, v, -1));
        for (int other : new int[] {-1, 5, MIN, MAX}) {
            b.refused("from " + other, -1, s -> s.story(other, 3, -1));
            b.refused("to " + other, -1, s -> s.story(3, other, -1));
            b.refused("from " + other + ", how many such", -1, s -> s.story(other, 3, -2));
            b.refused("to " + other + ", the first", -1, s -> s.story(3, other, 0));
        }
        for (int i : new int[] {-3, -4, MIN, 0, 1, 3, MAX}) {
            b.refused("i " + i + " of an empty story", -1, s -> s.story(3, 3, i));
        }
        TwoSuns s = Bounds.busy();
        b.due("there is none", s.story(0, 2, -1), -1);
        s.story(0, 2, -2);
        s.story(2, 0, 0);
        b.unchanged("a search only asks", s, Bounds.busy());
    }

    private void storyOfNone() {
        b.sentence("THE SHORTEST STORY: how many TEXTS (i NONE)");
        TwoSuns s = adding(0, 1, 2);
        b.due("none is needed", story(s, -1), 0);
        b.due("one such", story(s, -2), 1);
        b.due("no first", story(s, 0), -1);
        TwoSuns t = adding(1);
        b.due("without texts there is none", story(t, -1), -1);
        b.due("nor how many such", story(t, -2), -1);
        b.due("nor a first", story(t, 0), -1);
    }

    private void threeTextsAtMost() {
        b.sentence("A STORY from PICTURE P to Q: TEXTS, one behind the other, 3 at most");
        int[] lengths = {0, 1, 2, 3, -1, -1};
        for (int v = 0; v < lengths.length; v++) {
            TwoSuns s = adding(v, 1);
            b.due("to " + v + " by ones", story(s, -1), lengths[v]);
            b.due("such ones", story(s, -2), lengths[v] < 0 ? -1 : 1);
            for (int i = 0; i < 5; i++) {
                b.due("the text " + i + " to " + v, story(s, i), i < lengths[v] ? 0 : -1);
            }
        }
    }

    private void firstOfLikeOnes() {
        b.sentence("THE SHORTEST; of like ones the first by its TEXTS' numbers");
        // To 6: 1 + 2 + 3 in six orders and 2 + 2 + 2; with a 4 it is 2 + 4 or 4 + 2; with a 6 it is one.
        int[][] added = {{1, 2, 3}, {3, 2, 1}, {2, 2, 2}, {3, 1, 2, 4}, {5, 4, 2}, {1, 5, 6}, {6, 6}};
        int[][] first = {{2, 2}, {0, 0}, {0, 0, 0}, {0, 0}, {1, 2}, {2}, {0}};
        for (int c = 0; c < added.length; c++) {
            TwoSuns s = adding(6, added[c]);
            b.due("length of case " + c, story(s, -1), first[c].length);
            for (int i = 0; i < first[c].length; i++) {
                b.due("text " + i + " of case " + c, story(s, i), first[c][i]);
            }
        }
        TwoSuns three = adding(7, 1, 2, 4);
        // 1 + 2 + 4 in six orders: the first is 0, 1, 2.
        b.due("how many such", story(three, -2), 6);
        for (int i = 0; i < 3; i++) {
            b.due("text " + i, story(three, i), i);
        }
    }

    private void howManySuch() {
        b.sentence("i -2: how many such of that length there are");
        b.due("all of six texts", story(adding(3, 1, 1, 1, 1, 1, 1), -2), 216);
        b.due("two of six texts", story(adding(2, 1, 1, 1, 1, 1, 1), -2), 36);
        b.due("one of six texts", story(adding(1, 1, 1, 1, 1, 1, 1), -2), 6);
        b.due("none of six texts", story(adding(0, 1, 1, 1, 1, 1, 1), -2), 1);
        b.due("2 + 4 and 4 + 2, not the longer ones", story(adding(6, 2, 4, 1), -2), 2);
        b.due("its length", story(adding(6, 2, 4, 1), -1), 2);
        // Of one length only: texts that do nothing make longer ones, which don't count.
        b.due("with one that does nothing", story(adding(1, 1, 0), -2), 1);
        b.due("none, with one that does nothing", story(adding(0, 1, 0), -2), 1);
        b.due("i -2 of none", story(adding(9, 1), -2), -1);
    }

    private void noneSuch() {
        b.sentence("the i-th; i -2: how many such of that length there are. NONE: there is none, none such");
        int[] lengths = {0, 1, 2, 3};
        for (int length : lengths) {
            TwoSuns s = adding(length, 1);
            b.due("the last of " + length, length == 0 || story(s, length - 1) == 0, true);
            for (int i : new int[] {length, length + 1, 3, 4, MAX, -3, MIN}) {
                b.due("text " + i + " of " + length, story(s, i), -1);
            }
        }
    }

    private void textsThatAreGone() {
        b.sentence("A STORY from PICTURE P to Q: TEXTS");
        TwoSuns s = new TwoSuns(4, 4);
        s.light(1, 0, 0, 5);
        s.image();
        Due.read(s, "paint 0 0 1 1 5;@");
        b.due("one with a fault is none", story(s, -1), -1);
        Due.read(s, "paint 0 0 1 1 5;");
        b.due("by a text", story(s, -1), 1);
        s.back();
        b.due("behind a way back it is gone", story(s, -1), -1);
        b.due("nor are there such", story(s, -2), -1);
        Due.read(s, "paint 0 0 1 1 light+5;");
        b.due("by another one", story(s, -1), 1);
        b.due("one such", story(s, -2), 1);
    }

    private void storyOfItself() {
        b.sentence("done to P, by which it is as Q");
        TwoSuns s = Bounds.busy();
        for (int picture = 0; picture < 5; picture++) {
            b.due("to itself", s.story(picture, picture, -1), 0);
            b.due("one such", s.story(picture, picture, -2), 1);
        }
        TwoSuns t = adding(1, 1);
        t.light(1, 3, 3, 1);
        b.due("one cell otherwise is not as it", story(t, -1), -1);
        t.light(1, 3, 3, 0);
        b.due("without it it is", story(t, -1), 1);
    }

    private void eachTextHas300Acts() {
        b.sentence("TEXTS, one behind the other, 3 at most, done to P");
        TwoSuns s = new TwoSuns(4, 4);
        // Each text comes to one of its two paints, as it ends at 300 acts, and the next one begins anew.
        Due.read(s, behind299("paint 0 0 1 1 light+2;paint 0 0 1 1 light+2;"));
        int[] lengths = {0, 1, 2, 3, -1};
        for (int i = 0; i < lengths.length; i++) {
            s.light(1, 0, 0, 2 * i);
            b.due("texts up to " + 2 * i, story(s, -1), lengths[i]);
        }
    }

    private void picturesOfAStory() {
        b.sentence("(other PICTURES as they are; P as a paste's picture as it became)");
        TwoSuns s = new TwoSuns(4, 4);
        Due.read(s, "paint 0 0 1 1 9;");
        Due.read(s, "paste 0 0 0 1 1 to 1 0;");
        Due.fill(s, 1, 0, 9, 9, 0, 0);
        b.due("as it became", story(s, -1), 2);
        b.due("painted", story(s, 0), 0);
        b.due("pasted", story(s, 1), 1);
        b.due("one such", story(s, -2), 1);
        // From picture 2 picture 0 is another one, which stays dark.
        b.due("another one as it is", s.story(2, 1, -1), -1);
        Due.fill(s, 3, 0, 9, 0, 0, 0);
        b.due("so it is dark", s.story(2, 3, -1), 1);
        b.due("and is not changed by a search", s.at(0, 0, 0) + s.at(2, 0, 0), 0);
        b.due("nor is the goal", s.at(1, 1, 0), 9);
    }
}
