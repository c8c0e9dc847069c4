/** The sentences of the document that name a boundary case of pictures: promises 1 to 5, 13 to 17 and 28, and their terms. */
public final class BoundsOfPicturesTest {
    private static final int MIN = Bounds.MIN;
    private static final int MAX = Bounds.MAX;

    private final Bounds b = new Bounds("bounds of pictures");

    public static void main(String[] args) {
        BoundsOfPicturesTest t = new BoundsOfPicturesTest();
        t.newObjects();
        t.cells();
        t.rows();
        t.copies();
        t.grainyThings();
        t.twins();
        t.shifts();
        t.says();
        t.b.finish();
    }

    private void newObjects() {
        sidesAreTheNearest();
        theImageIsTheNewObject();
        lightIsZeroAtFirst();
    }

    private void cells() {
        lightForOthers();
        lightUpTo99();
        atForOthers();
        cellsOfEveryPicture();
        fiveHundredAndTwelveCalls();
    }

    private void rows() {
        rowOfUpToEight();
        rowToItsEnd();
        twoFiguresEach();
        rowForOthers();
        figuresOfARow();
    }

    private void copies() {
        copyForOthers();
        copyOfAnother();
    }

    private void grainyThings() {
        fieldsOfRough();
        onlyBesideOneAnother();
        grainForOthers();
        blocksOfGrain();
        withoutBlocks();
        blocksThatLieWhole();
        lowerMedian();
        oddBelow();
        oddAbove();
        squaresForOthers();
        squaresModFour();
        pairsBothInIt();
        likeOffsets();
    }

    private void twins() {
        twiceForOthers();
        noCellInCommon();
        greatestSide();
        withinT();
        notAllAlike();
        flatAlone();
        piecesOfThePicture();
        orderOfPairs();
        noPair();
    }

    private void shifts() {
        twoForOthers();
        shiftsOfThree();
        whereBothAre();
        likeShifts();
        byHowManyCells();
        furtherOffThanT();
    }

    private void says() {
        sayForOthers();
        sayOfACellOfAPair();
        sayOddByThree();
        pairsGoAheadOfOdd();
    }

    private void sidesAreTheNearest() {
        b.sentence("W by H CELLS (4 to 12 each; others: the nearest of these)");
        int[][] sides = {{MIN, 4}, {-1, 4}, {0, 4}, {3, 4}, {4, 4}, {5, 5}, {11, 11}, {12, 12}, {13, 12}, {MAX, 12}};
        for (int[] side : sides) {
            TwoSuns wide = new TwoSuns(side[0], 7);
            TwoSuns high = new TwoSuns(7, side[0]);
            b.due("W of " + side[0], wide.about(0), side[1]);
            b.due("H beside it", wide.about(1), 7);
            b.due("H of " + side[0], high.about(1), side[1]);
            b.due("W beside it", high.about(0), 7);
            b.due("the last cell of a row of " + side[0], wide.light(4, side[1] - 1, 6, 9), true);
            b.due("none behind it", wide.light(4, side[1], 6, 9), false);
            b.due("the last cell of a column of " + side[0], high.light(4, 6, side[1] - 1, 9), true);
            b.due("none below it", high.light(4, 6, side[1], 9), false);
        }
    }

    private void theImageIsTheNewObject() {
        b.sentence("THE IMAGE is this");
        TwoSuns s = Bounds.full();
        s.light(0, 0, 0, 7);
        s.maker(0, 9);
        s.habit(0, 0, 99);
        s.wane(0);
        s.end(0);
        b.due("back without an image", s.back(), 0);
        TwoSuns fresh = new TwoSuns(Bounds.WIDTH, Bounds.HEIGHT);
        Due.read(fresh, "");
        fresh.back();
        b.unchanged("as new but for the latest fault", s, fresh);
    }

    private void lightIsZeroAtFirst() {
        b.sentence("LIGHT 0 .. 99 each (at first 0)");
        TwoSuns s = new TwoSuns(4, 4);
        int sum = 0;
        for (int i = 0; i < 5 * 16; i++) {
            sum += Math.abs(s.at(i / 16, i % 4, i / 4 % 4));
        }
        b.due("all of it", sum, 0);
    }

    private void lightForOthers() {
        b.sentence("LIGHT: true. False for others");
        b.range("light's picture", 0, 4, 0, (s, v) -> Bounds.truth(s.light(v, 1, 1, 3)));
        b.range("light's x", 0, Bounds.WIDTH - 1, 0, (s, v) -> Bounds.truth(s.light(1, v, 1, 3)));
        b.range("light's y", 0, Bounds.HEIGHT - 1, 0, (s, v) -> Bounds.truth(s.light(1, 1, v, 3)));
        b.range("light's v", 0, 99, 0, (s, v) -> Bounds.truth(s.light(1, 1, 1, v)));
    }

    private void lightUpTo99() {
        b.sentence("LIGHT 0 .. 99 each");
        TwoSuns s = new TwoSuns(4, 4);
        for (int v : new int[] {98, 99, 1, 0}) {
            s.light(2, 3, 0, v);
            b.due("light " + v, s.at(2, 3, 0), v);
        }
    }

    private void atForOthers() {
        b.sentence("`int at(int picture, int x, int y)`: LIGHT. NONE for others");
        b.asking("at's picture", 0, 4, -1, (s, v) -> s.at(v, 1, 1));
        b.asking("at's x", 0, Bounds.WIDTH - 1, -1, (s, v) -> s.at(1, v, 1));
        b.asking("at's y", 0, Bounds.HEIGHT - 1, -1, (s, v) -> s.at(1, 1, v));
    }

    private void cellsOfEveryPicture() {
        b.sentence("PICTURES 0 .. 4: W by H CELLS (x 0 .. W - 1, y 0 .. H - 1)");
        TwoSuns s = new TwoSuns(4, 4);
        for (int i = 0; i < 5 * 16; i++) {
            s.light(i / 16, i % 4, i / 4 % 4, i);
        }
        for (int i = 0; i < 5 * 16; i++) {
            b.due("its own light, cell " + i, s.at(i / 16, i % 4, i / 4 % 4), i);
        }
    }

    private void fiveHundredAndTwelveCalls() {
        b.sentence("An object is used for at most 512 calls after it has been made");
        TwoSuns s = new TwoSuns(12, 12);
        for (int i = 1; i <= 510; i++) {
            b.due("call " + i, s.light(i % 5, i % 12, i % 11, i % 100), true);
        }
        b.due("the 511th", s.light(4, 11, 11, 77), true);
        b.due("the 512th", s.at(4, 11, 11), 77);
    }

    private void rowOfUpToEight() {
        b.sentence("LIGHT of up to eight CELLS of a row from one on");
        int[][] cases = {{12, 0, 8}, {12, 3, 8}, {12, 4, 8}, {12, 5, 7}, {12, 11, 1}, {9, 0, 8}, {9, 1, 8}, {8, 0, 8}, {8, 1, 7}, {7, 0, 7}, {4, 0, 4}, {4, 3, 1}};
        for (int[] c : cases) {
            TwoSuns s = new TwoSuns(c[0], 4);
            for (int x = 0; x < c[0]; x++) {
                s.light(0, x, 0, 90 + x % 8);
            }
            b.due("of " + c[0] + " from " + c[1], s.row(0, c[1], 0, 8877665544332211L), c[2]);
            for (int x = 0; x < c[0]; x++) {
                boolean put = x >= c[1] && x < c[1] + c[2];
                b.due("cell " + x, s.at(0, x, 0), put ? 11 * (x - c[1] + 1) : 90 + x % 8);
            }
        }
    }

    private void rowToItsEnd() {
        b.sentence("how many there were (to the row's end)");
        TwoSuns s = new TwoSuns(5, 4);
        b.due("one from the end", s.row(1, 4, 2, 8877665544332211L), 1);
        b.due("the last cell", s.at(1, 4, 2), 11);
        for (int x = 0; x < 5; x++) {
            b.due("not in the next row", s.at(1, x, 3), 0);
            b.due("not in the next picture", s.at(2, x, 2), 0);
        }
        b.due("the last row's end", s.row(4, 3, 3, 8877665544332211L), 2);
        b.due("its last cell", s.at(4, 4, 3), 22);
    }

    private void twoFiguresEach() {
        b.sentence("two decimal figures each, the first the lowest two");
        TwoSuns s = new TwoSuns(8, 4);
        s.row(0, 0, 0, 100L);
        b.due("100: the first", s.at(0, 0, 0), 0);
        b.due("100: the second", s.at(0, 1, 0), 1);
        s.row(0, 0, 0, 99L);
        b.due("99: the first", s.at(0, 0, 0), 99);
        b.due("99: the second is put too", s.at(0, 1, 0), 0);
        s.row(0, 0, 0, 100000000000000L);
        b.due("the lowest of the eighth", s.at(0, 7, 0), 1);
        s.row(0, 0, 0, 99999999999999L);
        b.due("the highest of the seventh", s.at(0, 6, 0), 99);
        b.due("none of the eighth", s.at(0, 7, 0), 0);
    }

    private void rowForOthers() {
        b.sentence("NONE for others (figures 0 .. 9999999999999999)");
        b.range("row's picture", 0, 4, -1, (s, v) -> s.row(v, 1, 1, 33L));
        b.range("row's x", 0, Bounds.WIDTH - 1, -1, (s, v) -> s.row(1, v, 1, 33L));
        b.range("row's y", 0, Bounds.HEIGHT - 1, -1, (s, v) -> s.row(1, 1, v, 33L));
        for (long figures : new long[] {-1L, 10000000000000000L, Long.MIN_VALUE, Long.MAX_VALUE, -9999999999999999L}) {
            b.refused("figures " + figures, -1, s -> s.row(1, 0, 0, figures));
        }
    }

    private void figuresOfARow() {
        b.sentence("(figures 0 .. 9999999999999999)");
        TwoSuns s = new TwoSuns(8, 4);
        long[] figures = {9999999999999999L, 9999999999999998L, 0L, 1L};
        int[][] firstAndLast = {{99, 99}, {98, 99}, {0, 0}, {1, 0}};
        for (int i = 0; i < figures.length; i++) {
            b.due("figures " + figures[i], s.row(0, 0, 0, figures[i]), 8);
            b.due("its first", s.at(0, 0, 0), firstAndLast[i][0]);
            b.due("its last", s.at(0, 7, 0), firstAndLast[i][1]);
        }
    }

    private void copyForOthers() {
        b.sentence("A PICTURE is as another one: true. False for others");
        b.range("copy's from", 0, 4, 0, (s, v) -> Bounds.truth(s.copy(v, 3)));
        b.range("copy's to", 0, 4, 0, (s, v) -> Bounds.truth(s.copy(0, v)));
        b.refused("neither", 0, s -> Bounds.truth(s.copy(5, -1)));
    }

    private void copyOfAnother() {
        b.sentence("A PICTURE is as another one: true");
        TwoSuns s = Bounds.busy();
        b.due("of itself", s.copy(2, 2), true);
        b.unchanged("of itself", s, Bounds.busy());
        TwoSuns t = Bounds.busy();
        t.copy(0, 4);
        b.due("the last cell too", t.at(4, 4, 3), 0);
        b.due("the first cell too", t.at(4, 0, 0), 10);
        b.due("the first picture stays", t.at(0, 0, 0), 10);
    }

    private void fieldsOfRough() {
        b.sentence("A FIELD: a corner x, y and a width and height, all of it in the PICTURE (1 or more each)");
        b.asking("rough's picture", 0, 4, -1, (s, v) -> s.rough(v, 1, 1, 2, 2));
        b.asking("rough's x", 0, 4, -1, (s, v) -> s.rough(0, v, 0, 1, 1));
        b.asking("rough's x by a width of 3", 0, 2, -1, (s, v) -> s.rough(0, v, 0, 3, 1));
        b.asking("rough's y", 0, 3, -1, (s, v) -> s.rough(0, 0, v, 1, 1));
        b.asking("rough's y by a height of 3", 0, 1, -1, (s, v) -> s.rough(0, 0, v, 1, 3));
        b.asking("rough's w from 0", 1, 5, -1, (s, v) -> s.rough(0, 0, 0, v, 1));
        b.asking("rough's w from 1", 1, 4, -1, (s, v) -> s.rough(0, 1, 0, v, 1));
        b.asking("rough's w from 4", 1, 1, -1, (s, v) -> s.rough(0, 4, 0, v, 1));
        b.asking("rough's h from 0", 1, 4, -1, (s, v) -> s.rough(0, 0, 0, 1, v));
        b.asking("rough's h from 1", 1, 3, -1, (s, v) -> s.rough(0, 0, 1, 1, v));
        b.asking("rough's h from 3", 1, 1, -1, (s, v) -> s.rough(0, 0, 3, 1, v));
        b.refused("ends that come round", -1, s -> s.rough(0, MAX, MAX, MAX, MAX));
    }

    private void onlyBesideOneAnother() {
        b.sentence("all CELLS of it that are beside one another in x or in y, together");
        TwoSuns s = new TwoSuns(4, 4);
        s.light(0, 1, 1, 10);
        b.due("a lone cell", s.rough(0, 1, 1, 1, 1), 0);
        b.due("slantwise beside it", s.rough(0, 1, 1, 2, 2), 20);
        b.due("a row to its left end", s.rough(0, 0, 1, 2, 1), 10);
        b.due("a column to its upper end", s.rough(0, 1, 0, 1, 2), 10);
        b.due("the cell outside the field", s.rough(0, 2, 0, 2, 4), 0);
        b.due("a row's last and the next one's first", s.rough(0, 2, 0, 1, 4), 0);
        s.light(0, 3, 0, 50);
        b.due("ends of rows are not beside one another", s.rough(0, 0, 0, 4, 2), 10 + 10 + 10 + 50 + 50);
        s.light(1, 0, 0, 99);
        b.due("the whole picture's greatest step", s.rough(1, 0, 0, 4, 4), 2 * 99);
        b.sentence("ROUGH of a FIELD: |LIGHT less LIGHT|");
        Due.fill(s, 2, 0, 30, 10, 10, 99);
        Due.fill(s, 2, 1, 99, 30, 10, 0);
        b.due("down", s.rough(2, 0, 0, 2, 1), 20);
        b.due("none", s.rough(2, 1, 0, 2, 1), 0);
        b.due("up", s.rough(2, 2, 0, 2, 1), 89);
        b.due("down in y", s.rough(2, 3, 0, 1, 2), 99);
        b.due("none in y", s.rough(2, 2, 0, 1, 2), 0);
        b.due("up in y", s.rough(2, 0, 0, 1, 2), 69);
        b.due("together", s.rough(2, 0, 0, 4, 2), 20 + 89 + 69 + 20 + 10 + 69 + 20 + 99);
    }

    /** Makes a block of a dark picture just so rough: a light in its corner counts twice, one at its edge three times. */
    private static void makeRough(TwoSuns s, int block, int rough) {
        int across = s.about(0) / 4;
        int left = block % across * 4;
        int top = block / across * 4;
        int edge = rough % 2;
        s.light(0, left, top, (rough - 3 * edge) / 2);
        s.light(0, left + 2, top + 3, edge);
    }

    private static TwoSuns roughened(int w, int h, int... roughs) {
        TwoSuns s = new TwoSuns(w, h);
        for (int i = 0; i < roughs.length; i++) {
            makeRough(s, i, roughs[i]);
        }
        return s;
    }

    private void grainForOthers() {
        b.sentence("a BLOCK is ODD by t (2 .. 99)");
        for (int what : new int[] {0, 1, 2, 100}) {
            b.asking("grain's t for " + what, 2, 99, -1, (s, v) -> s.grain(0, v, what));
            b.asking("grain's picture for " + what, 0, 4, -1, (s, v) -> s.grain(v, 2, what));
        }
    }

    private void blocksOfGrain() {
        b.sentence("0 how many BLOCKS, 1 MEDIAN, 2 how many are ODD by t, 100 + block: whether it is (1, 0). NONE for others");
        b.asking("grain's what", 0, 2, -1, (s, v) -> s.grain(0, 2, v));
        b.asking("grain's what of the only block", 100, 100, -1, (s, v) -> s.grain(0, 2, v));
        b.refused("what 10", -1, s -> s.grain(0, 2, 10));
        TwoSuns nine = new TwoSuns(12, 12);
        b.due("100 + the first of nine", nine.grain(0, 2, 100), 0);
        b.due("100 + the last of nine", nine.grain(0, 2, 108), 0);
        b.due("100 + one more", nine.grain(0, 2, 109), -1);
        b.due("99", nine.grain(0, 2, 99), -1);
    }

    private void withoutBlocks() {
        b.sentence("and without BLOCKS (what 0: 0)");
        // No picture is without blocks, as a side is 4 at least: the smallest one has one.
        TwoSuns s = new TwoSuns(MIN, MIN);
        b.due("blocks of the smallest", s.grain(0, 2, 0), 1);
        b.due("its median", s.grain(0, 2, 1), 0);
        b.due("odd ones", s.grain(0, 2, 2), 0);
        b.due("its block", s.grain(0, 2, 100), 0);
        b.due("no other", s.grain(0, 2, 101), -1);
    }

    private void blocksThatLieWhole() {
        b.sentence("BLOCKS: 4 by 4 from (0, 0) on that lie in the PICTURE whole, numbered row by row");
        int[] across = {0, 0, 0, 0, 1, 1, 1, 1, 2, 2, 2, 2, 3};
        for (int w = 4; w <= 12; w++) {
            for (int h = 4; h <= 12; h++) {
                b.due("blocks of " + w + " by " + h, new TwoSuns(w, h).grain(0, 2, 0), across[w] * across[h]);
            }
        }
        TwoSuns cut = new TwoSuns(11, 7);
        cut.light(0, 8, 0, 99);
        cut.light(0, 0, 4, 99);
        b.due("what isn't whole is none", cut.grain(0, 2, 2), 0);
        for (int block = 0; block < 6; block++) {
            TwoSuns s = new TwoSuns(12, 8);
            s.light(0, block % 3 * 4 + 3, block / 3 * 4 + 3, 5);
            for (int i = 0; i < 6; i++) {
                b.due("block " + i + " of a light in " + block, s.grain(0, 2, 100 + i), Bounds.truth(i == block));
            }
        }
        // One block across, or one down.
        for (int block = 0; block < 3; block++) {
            TwoSuns down = new TwoSuns(7, 12);
            TwoSuns beside = new TwoSuns(12, 7);
            down.light(0, 3, block * 4 + 3, 5);
            beside.light(0, block * 4 + 3, 3, 5);
            for (int i = 0; i < 3; i++) {
                b.due("block " + i + " down, of a light in " + block, down.grain(0, 2, 100 + i), Bounds.truth(i == block));
                b.due("block " + i + " across, of a light in " + block, beside.grain(0, 2, 100 + i), Bounds.truth(i == block));
            }
        }
    }

    private void lowerMedian() {
        b.sentence("MEDIAN of the ROUGH of BLOCKS (of an even number the lower one)");
        b.due("of one", roughened(4, 4, 7).grain(0, 2, 1), 7);
        b.due("of two", roughened(8, 4, 9, 4).grain(0, 2, 1), 4);
        b.due("of two the other way", roughened(4, 8, 4, 9).grain(0, 2, 1), 4);
        b.due("of three", roughened(12, 4, 9, 4, 6).grain(0, 2, 1), 6);
        b.due("of four", roughened(8, 8, 9, 4, 6, 8).grain(0, 2, 1), 6);
        b.due("of six", roughened(12, 8, 20, 4, 6, 8, 9, 10).grain(0, 2, 1), 8);
        b.due("of nine", roughened(12, 12, 20, 4, 6, 8, 9, 10, 11, 12, 2).grain(0, 2, 1), 9);
        b.due("of four like ones", roughened(8, 8, 5, 5, 5, 5).grain(0, 2, 1), 5);
        b.due("of four, two alike", roughened(8, 8, 5, 5, 4, 20).grain(0, 2, 1), 5);
    }

    private void oddness(int t, int rough, int odd) {
        // The median is 12: of three blocks one lies below it and one above it, or is it itself.
        TwoSuns s = roughened(12, 4, rough, 12, 12);
        b.due("median of " + rough + ", 12, 12", s.grain(0, t, 1), 12);
        b.due("block of " + rough + " by " + t, s.grain(0, t, 100), odd);
        b.due("block of 12 beside it", s.grain(0, t, 101), 0);
        b.due("how many are odd", s.grain(0, t, 2), odd);
    }

    private void oddBelow() {
        b.sentence("if its ROUGH * t is below MEDIAN");
        oddness(2, 5, 1);
        oddness(2, 6, 0);
        oddness(2, 7, 0);
        oddness(3, 3, 1);
        oddness(3, 4, 0);
        oddness(3, 5, 0);
        oddness(99, 0, 1);
        oddness(99, 2, 0);
    }

    private void oddAbove() {
        b.sentence("or MEDIAN * t below its ROUGH");
        oddness(2, 23, 0);
        oddness(2, 24, 0);
        oddness(2, 25, 1);
        oddness(3, 36, 0);
        oddness(3, 37, 1);
        // Of a median of 0 all that is rough is odd by any t, and what is flat is not.
        TwoSuns s = roughened(12, 4, 0, 2, 0);
        b.due("0 against 0", s.grain(0, 99, 100), 0);
        b.due("2 against 0", s.grain(0, 99, 101), 1);
        TwoSuns one = roughened(12, 4, 2, 2, 198);
        b.due("198 against 99 * 2", one.grain(0, 99, 102), 0);
        b.due("198 against 98 * 2", one.grain(0, 98, 102), 1);
    }

    private void squaresForOthers() {
        b.sentence("SQUARES of a FIELD (4 by 4 or more)");
        for (boolean inY : new boolean[] {false, true}) {
            b.asking("squares' picture", 0, 4, -1, (s, v) -> s.squares(v, 0, 0, 4, 4, inY));
            b.asking("squares' x", 0, 1, -1, (s, v) -> s.squares(0, v, 0, 4, 4, inY));
            b.asking("squares' y", 0, 0, -1, (s, v) -> s.squares(0, 0, v, 4, 4, inY));
            b.asking("squares' w", 4, 5, -1, (s, v) -> s.squares(0, 0, 0, v, 4, inY));
            b.asking("squares' h", 4, 4, -1, (s, v) -> s.squares(0, 0, 0, 4, v, inY));
            TwoSuns s = new TwoSuns(4, 12);
            b.due("h 3", s.squares(0, 0, 9, 4, 3, inY), -1);
            b.due("h 4 at the lower end", s.squares(0, 0, 8, 4, 4, inY) >= 0, true);
            b.due("one below it", s.squares(0, 0, 9, 4, 4, inY), -1);
            b.due("h 12", s.squares(0, 0, 0, 4, 12, inY) >= 0, true);
            b.due("h 13", s.squares(0, 0, 0, 4, 13, inY), -1);
        }
    }

    /** Dark up to a place, and light from there on, along x or y. */
    private static TwoSuns stepped(int at, boolean inY) {
        TwoSuns s = new TwoSuns(12, 12);
        for (int i = 0; i < 144; i++) {
            if ((inY ? i / 12 : i % 12) >= at) {
                s.light(0, i % 12, i / 12, 9);
            }
        }
        return s;
    }

    private void squaresModFour() {
        b.sentence("with x mod 4 = o");
        for (int at = 1; at < 12; at++) {
            b.due("a step at x " + at, stepped(at, false).squares(0, 0, 0, 12, 12, false), at % 4);
            b.due("a step at y " + at, stepped(at, true).squares(0, 0, 0, 12, 12, true), at % 4);
        }
    }

    private void pairsBothInIt() {
        b.sentence("all pairs of CELLS of it at x - 1, x (both in it)");
        // A step at 5: of a field from 5 or up to 4 it isn't in it, and the lowest offset with pairs is left.
        TwoSuns s = stepped(5, false);
        b.due("4 .. 7", s.squares(0, 4, 0, 4, 4, false), 1);
        b.due("5 .. 8: pairs at 6, 7, 8", s.squares(0, 5, 0, 4, 4, false), 0);
        b.due("2 .. 5", s.squares(0, 2, 0, 4, 4, false), 1);
        b.due("1 .. 4: pairs at 2, 3, 4", s.squares(0, 1, 0, 4, 4, false), 0);
        TwoSuns t = stepped(5, true);
        b.due("4 .. 7 in y", t.squares(0, 0, 4, 4, 4, true), 1);
        b.due("5 .. 8 in y", t.squares(0, 0, 5, 4, 4, true), 0);
        b.due("2 .. 5 in y", t.squares(0, 0, 2, 4, 4, true), 1);
        b.due("1 .. 4 in y", t.squares(0, 0, 1, 4, 4, true), 0);
        b.due("rows above the field don't count", steppedRow(3).squares(0, 0, 4, 12, 4, false), 0);
        b.due("nor those below it", steppedRow(8).squares(0, 0, 4, 12, 4, false), 0);
        b.due("the field's first row does", steppedRow(4).squares(0, 0, 4, 12, 4, false), 1);
        b.due("and its last", steppedRow(7).squares(0, 0, 4, 12, 4, false), 1);
    }

    /** A step at x 5 in one row alone. */
    private static TwoSuns steppedRow(int y) {
        TwoSuns s = new TwoSuns(12, 12);
        s.row(0, 5, y, 99999999999999L);
        return s;
    }

    private void likeOffsets() {
        b.sentence("the offset of the greatest STEP by pairs, of like ones the lowest");
        TwoSuns s = new TwoSuns(12, 4);
        for (int y = 0; y < 4; y++) {
            s.row(0, 0, y, 900090009000900L);
            s.row(0, 8, y, 9000900L);
        }
        // 0 9 0 9 ..: a step of 9 at each x; offset 0 has pairs at 4 and 8, or none in 0 .. 3.
        b.due("all alike", s.squares(0, 0, 0, 12, 4, false), 0);
        b.due("1, 2, 3 alike, 0 without pairs", s.squares(0, 0, 0, 4, 4, false), 1);
        b.due("0, 2, 3 alike, 1 without pairs", s.squares(0, 1, 0, 4, 4, false), 0);
        b.due("0, 1, 3 alike, 2 without pairs", s.squares(0, 2, 0, 4, 4, false), 0);
        s.light(0, 11, 0, 10);
        b.due("3 is greater by one step", s.squares(0, 0, 0, 12, 4, false), 3);
        s.light(0, 11, 0, 8);
        b.due("3 is less by one step", s.squares(0, 0, 0, 12, 4, false), 0);
        // Like by pairs though not together: 2 * 6 at x 1 and 5 of 8 pairs, 6 at x 3 of 4 pairs.
        TwoSuns t = new TwoSuns(6, 4);
        Due.fill(t, 0, 0, 0, 6, 6, 6, 6, 0);
        Due.fill(t, 0, 1, 0, 0, 0, 6, 6, 6);
        b.due("12 by 8 is like 6 by 4", t.squares(0, 0, 0, 6, 4, false), 1);
        Due.fill(t, 0, 1, 0, 0, 0, 7, 7, 7);
        b.due("12 by 8 is less than 7 by 4", t.squares(0, 0, 0, 6, 4, false), 3);
        Due.fill(t, 0, 0, 0, 7, 7, 7, 7, 0);
        b.due("14 by 8 is like 7 by 4", t.squares(0, 0, 0, 6, 4, false), 1);
    }

    private void twiceForOthers() {
        b.sentence("TWICE by side k (2 .. 6) and t (0 .. 9)");
        b.asking("twice's picture", 0, 4, -1, (s, v) -> s.twice(v, 2, 0, 0));
        b.asking("twice's k", 2, 6, -1, (s, v) -> s.twice(0, v, 0, 0));
        b.asking("twice's t", 0, 9, -1, (s, v) -> s.twice(0, 2, v, 0));
        b.refused("what -1", -1, s -> s.twice(0, 2, 0, -1));
        b.refused("what 5", -1, s -> s.twice(0, 2, 0, 5));
        b.refused("what least", -1, s -> s.twice(0, 2, 0, MIN));
        b.refused("what most", -1, s -> s.twice(0, 2, 0, MAX));
    }

    /** Rows that are each of one light, so far from one another that only pieces of the same rows are alike. */
    private static TwoSuns striped(int w, int h) {
        TwoSuns s = new TwoSuns(w, h);
        long[] pairsOfFigures = {0, 11, 33, 66, 99, 22};
        for (int y = 0; y < s.about(1); y++) {
            long figures = pairsOfFigures[y % 6] * 101010101010101L;
            s.row(0, 0, y, figures);
            if (s.about(0) > 8) {
                s.row(0, 8, y, figures);
            }
        }
        return s;
    }

    private void noCellInCommon() {
        b.sentence("two k by k pieces of a PICTURE that have no CELL in common");
        // Pieces of side k in a row of w: corners 0 .. w - k, pairs that lie k or more apart.
        b.due("2 in 4 by 4: 0 and 2 of each of 3 rows", striped(4, 4).twice(0, 2, 0, 0), 3);
        b.due("2 in 5 by 4: 0 2, 0 3, 1 3 of each", striped(5, 4).twice(0, 2, 0, 0), 9);
        b.due("3 in 5 by 4", striped(5, 4).twice(0, 3, 0, 0), 0);
        b.due("3 in 6 by 4: 0 and 3 of each of 2 rows", striped(6, 4).twice(0, 3, 0, 0), 2);
        b.due("4 in 7 by 4", striped(7, 4).twice(0, 4, 0, 0), 0);
        b.due("4 in 8 by 4", striped(8, 4).twice(0, 4, 0, 0), 1);
        // The same columns of light instead, so that pieces lie above one another.
        TwoSuns s = new TwoSuns(4, 5);
        for (int y = 0; y < 5; y++) {
            s.row(0, 0, y, 66331100L);
        }
        b.due("2 in 4 by 5, above one another", s.twice(0, 2, 0, 0), 9);
        b.due("3 in 4 by 5, above one another", s.twice(0, 3, 0, 0), 0);
    }

    private void greatestSide() {
        b.sentence("side k (2 .. 6)");
        b.due("6 in 12 by 6", striped(12, 6).twice(0, 6, 0, 0), 1);
        b.due("its second piece", striped(12, 6).twice(0, 6, 0, 3), 6);
        b.due("6 in 11 by 6", striped(11, 6).twice(0, 6, 0, 0), 0);
        b.due("6 in 12 by 5, where none fits", striped(12, 5).twice(0, 6, 0, 0), 0);
        b.due("5 in 12 by 5: 0 5, 0 6, 0 7, 1 6, 1 7, 2 7", striped(12, 5).twice(0, 5, 0, 0), 6);
        b.due("5 in 4 by 4, where none fits", striped(4, 4).twice(0, 5, 9, 0), 0);
    }

    /** Two pieces, the second one off by so much in its last cell, and no others that are near one another. */
    private static TwoSuns paired(int off) {
        TwoSuns s = new TwoSuns(4, 4);
        Due.fill(s, 0, 0, 10, 30, 99, 60);
        Due.fill(s, 0, 1, 50, 70, 0, 40);
        Due.fill(s, 0, 2, 90, 20, 10, 30);
        Due.fill(s, 0, 3, 0, 80, 50, 70 + off);
        return s;
    }

    private void withinT() {
        b.sentence("each LIGHT of the one within t of the other's");
        for (int off : new int[] {0, 1, 8, 9, 10, -1, -9, -10}) {
            for (int t = 0; t <= 9; t++) {
                boolean near = Math.abs(off) <= t;
                b.due("off by " + off + " within " + t, paired(off).twice(0, 2, t, 0), Bounds.truth(near));
            }
        }
        TwoSuns s = paired(0);
        s.light(0, 2, 2, 13);
        b.due("the first cell off by 3 within 2", s.twice(0, 2, 2, 0), 0);
        b.due("the first cell off by 3 within 3", s.twice(0, 2, 3, 0), 1);
    }

    private void notAllAlike() {
        b.sentence("not all LIGHT of the first one alike");
        TwoSuns s = new TwoSuns(4, 4);
        b.due("all flat", s.twice(0, 2, 9, 0), 0);
        s.light(0, 0, 0, 1);
        // The piece (0, 0) against those apart from it: (2, 0), (2, 1), (0, 2), (1, 2), (2, 2).
        b.due("the first isn't flat, the others are", s.twice(0, 2, 1, 0), 5);
        b.due("its second piece's x", s.twice(0, 2, 1, 3), 2);
        b.due("its second piece's y", s.twice(0, 2, 1, 4), 0);
        s.light(1, 3, 3, 1);
        b.due("the last isn't flat, the first ones are", s.twice(1, 2, 1, 0), 0);
        s.light(2, 1, 1, 1);
        // (0, 0) has five apart behind it, (1, 0) the row of y 2, (0, 1) those at (2, 1) and (2, 2), and (1, 1) none.
        b.due("a cell of four pieces", s.twice(2, 2, 1, 0), 5 + 3 + 2);
    }

    private void flatAlone() {
        b.sentence("not all LIGHT of the first one alike");
        // What lies beside a flat piece doesn't make it another one.
        int[][] cells = {{2, 0}, {2, 1}, {0, 2}, {1, 2}, {2, 2}};
        for (int[] c : cells) {
            TwoSuns s = new TwoSuns(4, 4);
            s.light(0, c[0], c[1], 90);
            b.due("a light beside flat ones at " + c[0] + " " + c[1], s.twice(0, 2, 0, 0), 0);
        }
    }

    private void piecesOfThePicture() {
        b.sentence("two k by k pieces of a PICTURE");
        // The right column would be as the piece at (0, 2) if there were dark cells beyond the picture.
        TwoSuns s = new TwoSuns(4, 4);
        Due.fill(s, 0, 0, 10, 20, 30, 9);
        Due.fill(s, 0, 1, 40, 50, 60, 8);
        Due.fill(s, 0, 2, 9, 0, 70, 80);
        Due.fill(s, 0, 3, 8, 0, 90, 99);
        b.due("none beyond it", s.twice(0, 2, 0, 0), 0);
    }

    private void orderOfPairs() {
        b.sentence("Pairs: by the first one's corner (y, then x), then the second's (the second's corner comes behind the first's)");
        TwoSuns s = striped(12, 6);
        int[] first = {0, 0, 2, 0};
        for (int what = 1; what <= 4; what++) {
            b.due("of many the first's " + what, s.twice(0, 2, 0, what), first[what - 1]);
        }
        TwoSuns t = new TwoSuns(4, 4);
        Due.fill(t, 0, 0, 10, 30, 50, 70);
        Due.fill(t, 0, 1, 90, 20, 40, 60);
        Due.fill(t, 0, 2, 50, 70, 10, 30);
        Due.fill(t, 0, 3, 40, 60, 90, 20);
        // (0, 0) is again at (2, 2), and (2, 0) at (0, 2): its second corner is further left, but behind it.
        b.due("two pairs", t.twice(0, 2, 0, 0), 2);
        int[] pair = {0, 0, 2, 2};
        for (int what = 1; what <= 4; what++) {
            b.due("its first's " + what, t.twice(0, 2, 0, what), pair[what - 1]);
        }
        t.light(0, 0, 0, 0);
        int[] left = {2, 0, 0, 2};
        for (int what = 1; what <= 4; what++) {
            b.due("of the one that is left " + what, t.twice(0, 2, 0, what), left[what - 1]);
        }
        // A second one that is one row below and to the left, and a first one that isn't at the upper edge.
        TwoSuns u = new TwoSuns(4, 4);
        Due.fill(u, 0, 0, 5, 15, 25, 35);
        Due.fill(u, 0, 1, 45, 55, 10, 30);
        Due.fill(u, 0, 2, 10, 30, 50, 70);
        Due.fill(u, 0, 3, 50, 70, 65, 95);
        b.due("one below and to the left", u.twice(0, 2, 0, 0), 1);
        int[] below = {2, 1, 0, 2};
        for (int what = 1; what <= 4; what++) {
            b.due("of it " + what, u.twice(0, 2, 0, what), below[what - 1]);
        }
    }

    private void noPair() {
        b.sentence("NONE: there is none (1 .. 4)");
        for (int what = 1; what <= 4; what++) {
            int asked = what;
            b.refused("what " + what + " without a pair", -1, s -> s.twice(3, 2, 0, asked));
            b.due("what " + what + " of one", paired(0).twice(0, 2, 0, what) >= 0, true);
        }
        b.due("how many (what 0) is 0 then", Bounds.busy().twice(3, 2, 0, 0), 0);
    }

    private void twoForOthers() {
        b.sentence("100 + t: how many CANNOT BE. -1000 for others");
        b.asking("two's one", 0, 4, -1000, (s, v) -> s.two(v, 1, 0));
        b.asking("two's other", 0, 4, -1000, (s, v) -> s.two(1, v, 0));
        b.asking("two's what", 0, 3, -1000, (s, v) -> s.two(0, 1, v));
        b.asking("two's what from 100 on", 100, 199, -1000, (s, v) -> s.two(0, 1, v));
        b.refused("neither", -1000, s -> s.two(-1, 5, 2));
    }

    private static int patterned(int x, int y) {
        return Math.floorMod(x * x * 31 + y * 57 + x * y * 11 + y * y * y * 5, 97);
    }

    /** Picture 1 is picture 0 moved. */
    private static TwoSuns moved(int w, int h, int dx, int dy) {
        TwoSuns s = new TwoSuns(w, h);
        for (int i = 0; i < w * h; i++) {
            int x = i % w;
            int y = i / w;
            s.light(0, x, y, patterned(x, y));
            s.light(1, x, y, patterned(x - dx, y - dy));
        }
        return s;
    }

    private void shiftsOfThree() {
        b.sentence("TWO PICTURES P, Q by (dx, dy) (-3 .. 3 each)");
        for (int dy = -3; dy <= 3; dy++) {
            for (int dx = -3; dx <= 3; dx++) {
                TwoSuns s = moved(9, 8, dx, dy);
                b.due("dx of " + dx + " " + dy, s.two(0, 1, 0), dx);
                b.due("dy of " + dx + " " + dy, s.two(0, 1, 1), dy);
                b.due("together", s.two(0, 1, 2), 0);
            }
        }
        int[][] far = {{4, 0}, {-4, 0}, {0, 4}, {0, -4}, {4, 4}, {-4, -4}};
        for (int[] way : far) {
            b.due("4 is too far", moved(9, 8, way[0], way[1]).two(0, 1, 2) > 0, true);
        }
    }

    private void whereBothAre() {
        b.sentence("CELLS (x, y) of P against (x + dx, y + dy) of Q, where both are");
        int[][] ways = {{3, 3}, {-3, 3}, {3, -3}, {-3, -3}, {0, 0}, {1, -2}, {0, 3}};
        for (int[] way : ways) {
            TwoSuns s = moved(9, 8, way[0], way[1]);
            int cells = (9 - Math.abs(way[0])) * (8 - Math.abs(way[1]));
            b.due("cells of " + way[0] + " " + way[1], s.two(0, 1, 3), cells);
            b.due("none of them is off", s.two(0, 1, 100), 0);
        }
        // In the smallest picture a shift of 3 each leaves one cell.
        TwoSuns s = new TwoSuns(4, 4);
        for (int i = 0; i < 16; i++) {
            s.light(0, i % 4, i / 4, 99);
        }
        s.light(0, 3, 3, 0);
        b.due("dx of one dark cell", s.two(0, 1, 0), -3);
        b.due("dy of one dark cell", s.two(0, 1, 1), -3);
        b.due("one cell", s.two(0, 1, 3), 1);
        s.light(0, 3, 3, 99);
        s.light(0, 0, 0, 0);
        b.due("dx of the other corner", s.two(0, 1, 0), 3);
        b.due("dy of the other corner", s.two(0, 1, 1), 3);
        b.due("none cannot be", s.two(0, 1, 100), 0);
    }

    private void likeShifts() {
        b.sentence("of like ones the first by dy, then dx");
        TwoSuns s = new TwoSuns(5, 7);
        b.due("flat: dx", s.two(0, 1, 0), -3);
        b.due("flat: dy", s.two(0, 1, 1), -3);
        b.due("flat: cells", s.two(0, 1, 3), 2 * 4);
        // All rows alike: each dy is as near, so it is the first; dx is where the columns lie.
        TwoSuns rows = new TwoSuns(5, 7);
        // All columns alike: each dx is as near, but the first by dy is that of the rows.
        TwoSuns columns = new TwoSuns(5, 7);
        for (int i = 0; i < 35; i++) {
            rows.light(0, i % 5, i / 5, i % 5 * 9);
            rows.light(1, i % 5, i / 5, i % 5 * 9 + 9);
            columns.light(0, i % 5, i / 5, i / 5 * 9);
            columns.light(1, i % 5, i / 5, i / 5 * 9 + 9);
        }
        b.due("rows alike: dx", rows.two(0, 1, 0), -1);
        b.due("rows alike: dy", rows.two(0, 1, 1), -3);
        b.due("columns alike: dx", columns.two(0, 1, 0), -3);
        b.due("columns alike: dy", columns.two(0, 1, 1), -1);
        // All off by 1: like by how many cells, though not together.
        TwoSuns off = new TwoSuns(4, 4);
        for (int i = 0; i < 16; i++) {
            off.light(0, i % 4, i / 4, 1);
        }
        int[] first = {-3, -3, 1, 1};
        for (int what = 0; what < 4; what++) {
            b.due("all off by 1: " + what, off.two(0, 1, what), first[what]);
        }
    }

    private void byHowManyCells() {
        b.sentence("NEAREST: that with the least |LIGHT less LIGHT| together by how many CELLS");
        // Only the corners are off: 4 by 9 cells is the least, where it is also 4 by 1, 2, 3, 4 and 6, or 8 by 12.
        TwoSuns s = new TwoSuns(4, 4);
        int[][] corners = {{3, 3, -1, -1}, {0, 3, 1, -1}, {3, 0, -1, 1}, {0, 0, 1, 1}};
        for (int[] c : corners) {
            s.light(0, c[0], c[1], 4);
        }
        for (int[] c : corners) {
            int[] nearest = {c[2], c[3], 4, 9};
            for (int what = 0; what < 4; what++) {
                b.due("with a corner of 4 at " + c[0] + " " + c[1] + ": " + what, s.two(0, 1, what), nearest[what]);
            }
            // One more at this corner, and the next one of 4 is nearer.
            s.light(0, c[0], c[1], 5);
        }
    }

    private void furtherOffThanT() {
        b.sentence("CANNOT BE by t (0 .. 99): CELLS of P that are further off than t by it");
        int[] offs = {1, 2, 50, 96};
        for (int off : offs) {
            TwoSuns s = moved(9, 8, 0, 0);
            // The cell (0, 0) has light 0.
            s.light(1, 0, 0, off);
            b.due("not moved in x", s.two(0, 1, 0), 0);
            b.due("not moved in y", s.two(0, 1, 1), 0);
            b.due("further off than " + (off - 1), s.two(0, 1, 100 + off - 1), 1);
            b.due("not further off than " + off, s.two(0, 1, 100 + off), 0);
            b.due("the other way, further off than " + (off - 1), s.two(1, 0, 100 + off - 1), 1);
            b.due("the other way, not further off than " + off, s.two(1, 0, 100 + off), 0);
        }
        TwoSuns all = new TwoSuns(4, 4);
        for (int i = 0; i < 16; i++) {
            all.light(0, i % 4, i / 4, 99);
        }
        // Each shift is as near, so it is the first one, of one cell.
        b.due("99 off: further than 98", all.two(0, 1, 198), 1);
        b.due("99 off: not further than 99", all.two(0, 1, 199), 0);
    }

    private void sayForOthers() {
        b.sentence("`int say(int picture, int block, int k, int t)`: SAY of a BLOCK. NONE for others");
        b.asking("say's picture", 0, 4, -1, (s, v) -> s.say(v, 0, 2, 0));
        b.asking("say's only block", 0, 0, -1, (s, v) -> s.say(0, v, 2, 0));
        b.asking("say's k", 2, 6, -1, (s, v) -> s.say(0, 0, v, 0));
        b.asking("say's t", 0, 9, -1, (s, v) -> s.say(0, 0, 2, v));
        TwoSuns s = new TwoSuns(12, 11);
        b.due("the last of six blocks", s.say(0, 5, 2, 0), 0);
        b.due("one more", s.say(0, 6, 2, 0), -1);
    }

    /** A 2 by 2 piece that is there twice, and nothing else that is. */
    private static TwoSuns twinned(int ax, int ay, int bx, int by) {
        TwoSuns s = new TwoSuns(12, 12);
        for (int i = 0; i < 144; i++) {
            s.light(0, i % 12, i / 12, Math.floorMod(i * i * 7 + i * 41 + i / 12 * 13, 89));
        }
        for (int i = 0; i < 4; i++) {
            int v = 90 + 2 * i;
            s.light(0, ax + i % 2, ay + i / 2, v);
            s.light(0, bx + i % 2, by + i / 2, v);
        }
        return s;
    }

    private void sayOfACellOfAPair() {
        b.sentence("2, if it has a CELL of a TWICE pair by side k, t");
        int[][] corners = {{3, 3, 10, 10}, {4, 4, 10, 10}, {2, 2, 10, 10}, {7, 7, 0, 10}, {8, 3, 0, 10}, {3, 8, 9, 0}, {10, 10, 0, 0}};
        for (int[] c : corners) {
            TwoSuns s = c[1] < c[3] ? twinned(c[0], c[1], c[2], c[3]) : twinned(c[2], c[3], c[0], c[1]);
            b.due("one pair", s.twice(0, 2, 0, 0), 1);
            for (int block = 0; block < 9; block++) {
                boolean has = touches(c[0], c[1], block) || touches(c[2], c[3], block);
                int other = s.grain(0, 3, 100 + block);
                b.due("block " + block + " of a pair at " + c[0] + " " + c[1], s.say(0, block, 2, 0), has ? 2 : other);
            }
            b.due("by side 3 there is none", s.twice(0, 3, 0, 0), 0);
            b.due("so nothing is said of it", s.say(0, 4, 3, 0), s.grain(0, 3, 104));
        }
        // Pairs of one picture are not those of another one, nor of another side.
        TwoSuns s = striped(4, 4);
        b.due("of a pair at the corner", s.say(0, 0, 2, 0), 2);
        b.due("of another picture", s.say(1, 0, 2, 0), 0);
        b.due("of the pair again", s.say(0, 0, 2, 0), 2);
        b.due("of another side", s.say(0, 0, 3, 0), 0);
    }

    private static boolean touches(int x, int y, int block) {
        boolean touched = false;
        for (int i = 0; i < 4; i++) {
            touched |= (x + i % 2) / 4 + (y + i / 2) / 4 * 3 == block;
        }
        return touched;
    }

    private void sayOddByThree() {
        b.sentence("else 1, if it is ODD by 3; else 0");
        // Pieces of side 6 don't fit into a height of 4, so there are no pairs.
        int[][] cases = {{3, 1}, {4, 0}, {5, 0}, {12, 0}, {35, 0}, {36, 0}, {37, 1}, {0, 1}};
        for (int[] c : cases) {
            TwoSuns s = roughened(12, 4, c[0], 12, 12);
            b.due("rough " + c[0] + " of a median of 12", s.say(0, 0, 6, 0), c[1]);
            b.due("the one beside it", s.say(0, 1, 6, 0), 0);
        }
    }

    private void pairsGoAheadOfOdd() {
        b.sentence("SAY of a BLOCK of a PICTURE: 2, if it has a CELL of a TWICE pair by side k, t; else 1");
        TwoSuns s = roughened(12, 4, 12, 12, 37);
        b.due("odd, but of no pair by side 6", s.say(0, 2, 6, 0), 1);
        b.due("odd and of a pair by side 2", s.say(0, 2, 2, 9), 2);
        TwoSuns t = paired(5);
        b.due("within 4 there is none", t.say(0, 0, 2, 4), 0);
        b.due("within 5 there is one", t.say(0, 0, 2, 5), 2);
    }
}
