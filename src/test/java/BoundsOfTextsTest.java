/** The sentences of the document that name a boundary case of the tape and of reading: promises 18 to 21, and their terms. */
public final class BoundsOfTextsTest {
    private static final int MIN = Bounds.MIN;
    private static final int MAX = Bounds.MAX;
    private static final String PAINT = "paint 0 0 1 1 ";
    private static final String KEEP = "keep 2 0 0;";

    private final Bounds b = new Bounds("bounds of texts");

    public static void main(String[] args) {
        BoundsOfTextsTest t = new BoundsOfTextsTest();
        t.tape();
        t.texts();
        t.tokens();
        t.numbers();
        t.faults();
        t.b.finish();
    }

    private void tape() {
        feedUpTo300();
        highestByteFirst();
        endForOthers();
        firstBytesAlone();
    }

    private void texts() {
        textOf300Bytes();
        readAgain();
        emptyText();
        textWithAFault();
        sixTexts();
        faultForOthers();
        faultAheadOfAny();
        faultOfTheLatest();
    }

    private void tokens() {
        blanks();
        lettersOneBehindTheOther();
        digitsOneBehindTheOther();
        bytesAtTheBeginning();
        wordsAsTheyAre();
    }

    private void numbers() {
        numbersOfPaste();
        numbersOfPaint();
        numbersOfKeep();
        numbersOfFlip();
        numbersOfRepeat();
        numbersOfSums();
    }

    private void faults() {
        endAtTheLength();
        firstAsTokensComeTo();
        ofOneTheLeast();
        ninthThatIsOpen();
        ninthOfMixedOnes();
        closedOnesDontCount();
        seventeenthAct();
        actsWithinRepeats();
    }

    private void faulty(String text, int kind, int place) {
        TwoSuns s = new TwoSuns(4, 4);
        b.due("text() of " + text, Due.read(s, text), kind == 0 ? 0 : -1);
        b.due("fault(0) of " + text, s.fault(0), kind);
        b.due("fault(1) of " + text, s.fault(1), place);
        b.due("texts behind " + text, s.about(5), kind == 0 ? 1 : 0);
        b.due("tape behind " + text, s.about(6), 0);
    }

    private void fine(String text) {
        faulty(text, 0, -1);
    }

    /** A busy object whose tape has so many bytes. */
    private static TwoSuns taped(int bytes) {
        TwoSuns s = Bounds.busy();
        Due.put(s, KEEP + " ".repeat(bytes - KEEP.length()));
        return s;
    }

    private void feedUpTo300() {
        b.sentence("NONE, and none come, if there would be more than 300");
        TwoSuns s = new TwoSuns(4, 4);
        for (int n = 20; n <= 300; n += 20) {
            b.due("how many it has", s.feed(0, 0, 0, 0, 0), n);
            b.due("bytes of the tape", s.about(6), n);
        }
        for (int bytes : new int[] {281, 282, 299, 300}) {
            TwoSuns t = taped(bytes);
            b.due("feed behind " + bytes, t.feed(0x40404040, 0, 0, 0, 0), -1);
            b.due("bytes of the tape", t.about(6), bytes);
            b.unchanged("feed behind " + bytes, t, taped(bytes));
        }
        for (int bytes : new int[] {279, 280}) {
            b.due("feed behind " + bytes, taped(bytes).feed(0, 0, 0, 0, 0), bytes + 20);
        }
    }

    private void highestByteFirst() {
        b.sentence("Twenty bytes come behind the tape, the highest of a first");
        TwoSuns s = new TwoSuns(4, 4);
        // "paint 0 0 1 1 light;" in one feed, then "keep 10 1 1; flip 0 " in another one, and "0 1 1;".
        s.feed(0x7061696e, 0x74203020, 0x30203120, 0x31206c69, 0x6768743b);
        b.due("twenty bytes", s.text(), 0);
        s.feed(0x6b656570, 0x20313020, 0x3120313b, 0x20666c69, 0x70203020);
        s.feed(0x30203120, 0x313b8081, 0xff000000, 0, 0);
        s.end(26);
        b.due("behind the first", s.text(), 1);
        b.due("two acts", s.act(1, 0), 2);
        // The highest byte has its sign.
        s.feed(0xff202020, 0, 0, 0, 0);
        s.end(4);
        b.due("byte 255 is no token", s.text(), -1);
        b.due("at the first byte", s.fault(1), 0);
        s.feed(0x20202080, 0, 0, 0, 0);
        s.end(4);
        b.due("byte 128 is no token", s.text(), -1);
        b.due("at the fourth byte", s.fault(1), 3);
    }

    private void endForOthers() {
        b.sentence("NONE, and nothing is done, if it has not so many, or n is below 0");
        // The tape of the busy object has 12 bytes.
        b.range("end's n", 0, 12, -1, (s, v) -> s.end(v));
        TwoSuns empty = new TwoSuns(4, 4);
        b.due("0 of none", empty.end(0), 0);
        b.due("1 of none", empty.end(1), -1);
        b.due("-1 of none", empty.end(-1), -1);
        TwoSuns full = taped(300);
        b.due("301 of 300", full.end(301), -1);
        b.due("300 of 300", full.end(300), 300);
        b.due("299 of 300", full.end(299), 299);
        b.due("300 of 299", full.end(300), -1);
        b.due("it has still", full.about(6), 299);
    }

    private void firstBytesAlone() {
        b.sentence("The tape has its first n bytes alone: n");
        TwoSuns s = new TwoSuns(4, 4);
        Due.put(s, "keep 2 0 0;@");
        b.due("without the last", s.end(11), 11);
        b.due("it is fine", s.text(), 0);
        Due.put(s, "keep 2 0 0;@");
        b.due("all of it", s.end(12), 12);
        b.due("it is not", s.text(), -1);
        b.due("at the last", s.fault(1), 11);
        Due.put(s, "keep 2 0 0;");
        s.end(10);
        b.due("one too few", s.text(), -1);
        b.due("at the end", s.fault(1), 10);
        Due.put(s, "keep 2 0 0;");
        b.due("none of it", s.end(0), 0);
        b.due("an empty text", s.text(), 1);
        b.due("no acts", s.act(1, 0), 0);
    }

    private void textOf300Bytes() {
        b.sentence("TEXTS 0 .. 5: of up to 300 bytes");
        for (int bytes : new int[] {299, 300}) {
            fine(KEEP + " ".repeat(bytes - KEEP.length()));
            fine(" ".repeat(bytes - KEEP.length()) + KEEP);
            faulty(" ".repeat(bytes - 1) + "@", 1, bytes - 1);
            faulty("keep 2 0 0" + " ".repeat(bytes - 10), 1, bytes);
            // One word and one number over all the tape.
            faulty("k".repeat(bytes), 1, 0);
            faulty("keep " + "0".repeat(bytes - 5), 2, 5);
            fine(PAINT + "0".repeat(bytes - 16) + "7;");
        }
        TwoSuns s = new TwoSuns(4, 4);
        Due.read(s, PAINT + "1+".repeat(142) + "1;");
        b.due("a sum over 300 bytes is fine", s.fault(0), 0);
        b.due("it is done", s.act(0, 0), 1);
        b.due("142 + 1 is 99 at most", s.at(0, 0, 0), 99);
        TwoSuns t = new TwoSuns(4, 4);
        Due.read(t, PAINT + "99-" + "1-".repeat(60) + "1" + "+1".repeat(40) + ";");
        t.act(0, 0);
        b.due("99 - 61 + 40", t.at(0, 0, 0), 78);
    }

    private void readAgain() {
        b.sentence("The tape (empty then) is a TEXT: its number");
        // Read again and again in the place of one that is gone, or that had a fault at its end.
        TwoSuns s = new TwoSuns(4, 4);
        for (int round = 0; round < 4; round++) {
            b.due("a long one", Due.read(s, PAINT + "1+".repeat(60) + round + ";"), 0);
            s.act(0, 0);
            b.due("what it comes to", s.at(0, 0, 0), 60 + round);
            s.back();
            b.due("one with a fault", Due.read(s, PAINT + "1+".repeat(60) + "@"), -1);
            b.due("it is none", s.act(0, 0), -1);
            b.due("nothing was painted", s.at(0, 0, 0), 0);
        }
        // Nothing is left of a longer sum behind a shorter one.
        Due.read(s, PAINT + "-5+7*2;");
        s.back();
        for (String shorter : new String[] {"8", "3+5", "9-1", "2*4", "8/1", "0+8", "-8/-1"}) {
            Due.read(s, PAINT + "-5--5--5--5;");
            s.back();
            b.due("a shorter one", Due.read(s, PAINT + shorter + ";"), 0);
            s.act(0, 0);
            b.due(shorter, s.at(0, 0, 0), 8);
            s.back();
        }
    }

    private void emptyText() {
        b.sentence("The tape (empty then) is a TEXT: its number");
        for (String text : new String[] {"", " ", "\n", " \n \n"}) {
            TwoSuns s = new TwoSuns(4, 4);
            b.due("an empty one", Due.read(s, text), 0);
            b.due("no fault", s.fault(0), 0);
            b.due("no place", s.fault(1), -1);
            b.due("no acts", s.act(0, 0), 0);
            b.due("the tape is empty then", s.about(6), 0);
            b.due("the next number", s.text(), 1);
        }
    }

    private void textWithAFault() {
        b.sentence("NONE: it has a FAULT");
        // The latest fault of the busy object is that of the same text.
        TwoSuns s = Bounds.busy();
        b.due("no number", Due.read(s, "flip 0 0 0 1;"), -1);
        b.due("the tape is empty then", s.about(6), 0);
        TwoSuns other = Bounds.busy();
        other.end(0);
        b.unchanged("a fault", s, other);
    }

    private void sixTexts() {
        b.sentence("or (the tape stays) there are 6");
        TwoSuns s = new TwoSuns(4, 4);
        for (int i = 0; i < 6; i++) {
            b.due("its number", Due.read(s, PAINT + (10 + i) + ";"), i);
            b.due("so many", s.about(5), i + 1);
        }
        Due.put(s, PAINT + "77;");
        b.due("a seventh", s.text(), -1);
        b.due("still 6", s.about(5), 6);
        b.due("the tape stays", s.about(6), 17);
        for (int i = 0; i < 6; i++) {
            s.act(i, 0);
            b.due("each is as it was", s.at(0, 0, 0), 10 + i);
        }
        b.refusedWhenFull("a seventh", -1, f -> f.text());
        b.refusedWhenFull("a seventh, twice", -1, f -> f.text() + f.text() + 1);
        s.back();
        b.due("room again behind a way back", s.text(), 0);
        s.act(0, 0);
        b.due("of the tape that stayed", s.at(0, 0, 0), 77);
        // A tape that has a fault stays too, and isn't read.
        TwoSuns t = Bounds.full();
        Due.put(t, "@");
        b.due("a seventh with a fault", t.text(), -1);
        b.due("the tape stays", t.about(6), 1);
        b.due("the latest text that was read had none", t.fault(0), 0);
        b.due("nor a place", t.fault(1), -1);
    }

    private void faultForOthers() {
        b.sentence("0 its FAULT (0 without), 1 its place (NONE without). NONE for others");
        b.asking("fault's what", 0, 1, -1, (s, v) -> s.fault(v));
        TwoSuns s = new TwoSuns(4, 4);
        Due.read(s, KEEP);
        int[][] without = {{-1, -1}, {0, 0}, {1, -1}, {2, -1}, {MIN, -1}, {MAX, -1}};
        for (int[] w : without) {
            b.due("without one, what " + w[0], s.fault(w[0]), w[1]);
        }
        Due.read(s, "  @");
        int[][] with = {{-1, -1}, {0, 1}, {1, 2}, {2, -1}, {MIN, -1}, {MAX, -1}};
        for (int[] w : with) {
            b.due("with one, what " + w[0], s.fault(w[0]), w[1]);
        }
        Due.read(s, "@");
        b.due("a place of 0", s.fault(1), 0);
    }

    private void faultAheadOfAny() {
        b.sentence("NONE for others, and ahead of any");
        TwoSuns s = new TwoSuns(4, 4);
        for (int round = 0; round < 3; round++) {
            for (int what = -1; what <= 2; what++) {
                b.due("what " + what, s.fault(what), -1);
            }
            // Bytes that are fed but not read, and a way back, are no text that was read.
            s.feed(0, 0, 0, 0, 0);
            s.back();
        }
        s.end(0);
        s.text();
        b.due("behind one", s.fault(0), 0);
    }

    private void faultOfTheLatest() {
        b.sentence("Of the latest text that was read");
        TwoSuns s = new TwoSuns(4, 4);
        String[] texts = {"@", KEEP, "keep 1 0 0;", "  }", "", PAINT + "(((((((((", KEEP.repeat(17)};
        int[][] faults = {{1, 0}, {0, -1}, {2, 5}, {1, 2}, {0, -1}, {3, 22}, {4, 176}};
        for (int i = 0; i < texts.length; i++) {
            Due.read(s, texts[i]);
            b.due("its fault", s.fault(0), faults[i][0]);
            b.due("its place", s.fault(1), faults[i][1]);
        }
        s.image();
        Due.read(s, "keep 1 0 0;");
        s.back();
        b.due("its fault behind a way back", s.fault(0), 2);
        b.due("its place behind a way back", s.fault(1), 5);
    }

    private static boolean isBlank(int c) {
        return c == 32 || c == 10;
    }

    private static boolean isDigit(int c) {
        return c >= 48 && c <= 57;
    }

    private static boolean isLetter(int c) {
        return c >= 97 && c <= 122 || c >= 65 && c <= 90;
    }

    private static boolean isDeed(int c) {
        return c == 42 || c == 43 || c == 45 || c == 47;
    }

    private void blanks() {
        b.sentence("TOKENS, blanks (32, 10) aside");
        fine(" \n keep \n 2 0\n\n0 ; \n");
        fine("keep2 0 0;keep 3\n0\n0;");
        for (int c = 0; c < 256; c++) {
            String text = "keep 2 0 0" + (char) c + ";";
            if (isBlank(c)) {
                fine(text);
            } else if (!isDigit(c)) {
                faulty(text, 1, c == ';' ? 11 : 10);
            } else {
                fine(text);
            }
        }
    }

    private void lettersOneBehindTheOther() {
        b.sentence("letters a .. z, A .. Z one behind the other (one TOKEN)");
        for (int c = 0; c < 256; c++) {
            String text = PAINT + "x" + (char) c + ";";
            if (isBlank(c)) {
                fine(text);
            } else if (isLetter(c)) {
                faulty(text, 1, 14);
            } else {
                faulty(text, 1, isDeed(c) || c == ';' ? 16 : 15);
            }
        }
    }

    private void digitsOneBehindTheOther() {
        b.sentence("digits likewise (NUMBERS, 0 .. 999)");
        for (int c = 0; c < 256; c++) {
            String text = PAINT + "1" + (char) c + ";";
            if (isBlank(c) || isDigit(c)) {
                fine(text);
            } else {
                faulty(text, 1, isDeed(c) || c == ';' ? 16 : 15);
            }
        }
        for (int digit = 0; digit <= 9; digit++) {
            TwoSuns s = new TwoSuns(4, 4);
            Due.read(s, PAINT + "1" + digit + ";");
            s.act(0, 0);
            b.due("1" + digit, s.at(0, 0, 0), 10 + digit);
        }
    }

    private void bytesAtTheBeginning() {
        b.sentence("1 it can't stand there, or is none");
        for (int c = 0; c < 256; c++) {
            String one = Character.toString((char) c);
            if (isBlank(c)) {
                fine(one);
                fine(one + KEEP);
            } else {
                faulty(one, 1, 0);
                faulty(one + KEEP, 1, 0);
                faulty(" " + one, 1, 1);
            }
        }
    }

    private void wordsAsTheyAre() {
        b.sentence("NAMES: light (of the CELL), x, y, left, up");
        for (String name : new String[] {"light", "x", "y", "left", "up", "round"}) {
            fine(PAINT + name + ";");
            faulty(PAINT + name.toUpperCase() + ";", 1, 14);
            faulty(PAINT + name + "s;", 1, 14);
            faulty(PAINT + "s" + name + ";", 1, 14);
            if (name.length() > 1) {
                faulty(PAINT + name.substring(1) + ";", 1, 14);
                faulty(PAINT + name.substring(0, name.length() - 1) + ";", 1, 14);
            }
            faulty(name + ";", 1, 0);
        }
        String[] acts = {"paste 0 0 0 1 1 to 0 0;", PAINT + "1;", KEEP, "flip 0 0 1 1;", "repeat 1{}"};
        for (String act : acts) {
            fine(act);
            faulty(act.substring(1), 1, 0);
            faulty("s" + act, 1, 0);
            faulty(act.replaceFirst(" ", "s "), 1, 0);
            faulty(act.substring(0, 1).toUpperCase() + act.substring(1), 1, 0);
        }
        faulty("paste 0 0 0 1 1 t 0 0;", 1, 16);
        faulty("paste 0 0 0 1 1 too 0 0;", 1, 16);
        faulty("paste 0 0 0 1 1 TO 0 0;", 1, 16);
    }

    /** A number in the place of # is told from least to greatest; others are a fault there. */
    private void number(String text, int least, int greatest) {
        int place = text.indexOf('#');
        for (int v : new int[] {least, least + 1, greatest - 1, greatest}) {
            fine(text.replace("#", Integer.toString(v)));
            fine(text.replace("#", "00" + v));
        }
        if (least > 0) {
            faulty(text.replace("#", Integer.toString(least - 1)), 2, place);
        }
        // Numbers that come round to a told one in 16, 32 and 64 bits are not told ones.
        String[] others = {Integer.toString(greatest + 1), "1000", "9999", "65538", "4294967298", "18446744073709551618", "0001000"};
        for (String v : others) {
            faulty(text.replace("#", v), 2, place);
            faulty("repeat 2{" + text.replace("#", v), 2, 9 + place);
        }
        faulty(text.replace("#", "@"), 1, place);
        faulty(text.replace("#", "to"), 1, place);
    }

    private void numbersOfPaste() {
        b.sentence("P, x, y, w, h, n: NUMBERS (P 0 .. 4; x, y 0 .. 99; w, h 1 .. 99; n 2 .. 50)");
        number("paste # 0 0 1 1 to 0 0;", 0, 4);
        number("paste 0 # 0 1 1 to 0 0;", 0, 99);
        number("paste 0 0 # 1 1 to 0 0;", 0, 99);
        number("paste 0 0 0 # 1 to 0 0;", 1, 99);
        number("paste 0 0 0 1 # to 0 0;", 1, 99);
        number("paste 0 0 0 1 1 to # 0;", 0, 99);
        number("paste 0 0 0 1 1 to 0 #;", 0, 99);
        fine("paste 4 99 99 99 99 to 99 99;");
    }

    private void numbersOfPaint() {
        b.sentence("paint x y w h SUM");
        number("paint # 0 1 1 5;", 0, 99);
        number("paint 0 # 1 1 5;", 0, 99);
        number("paint 0 0 # 1 5;", 1, 99);
        number("paint 0 0 1 # 5;", 1, 99);
        fine("paint 99 99 99 99 999;");
        fine("paint 0 0 1 1 0;");
    }

    private void numbersOfKeep() {
        b.sentence("w, h 1 .. 99; n 2 .. 50");
        number("keep # 0 0;", 2, 50);
        number("keep 2 # 0;", 0, 99);
        number("keep 2 0 #;", 0, 99);
    }

    private void numbersOfFlip() {
        b.sentence("flip x y w h");
        number("flip # 0 1 1;", 0, 99);
        number("flip 0 # 1 1;", 0, 99);
        number("flip 0 0 # 1;", 1, 99);
        number("flip 0 0 1 #;", 1, 99);
    }

    private void numbersOfRepeat() {
        b.sentence("repeat NUMBER { {ACT} } (1 .. 9)");
        number("repeat #{}", 1, 9);
        number("repeat #{" + KEEP + "}", 1, 9);
        faulty("repeat {}", 1, 7);
        faulty("repeat -1{}", 1, 7);
    }

    private void numbersOfSums() {
        b.sentence("digits likewise (NUMBERS, 0 .. 999)");
        number(PAINT + "#;", 0, 999);
        number(PAINT + "x*(2-#)+1;", 0, 999);
        number(PAINT + "-#;", 0, 999);
        TwoSuns s = new TwoSuns(4, 4);
        Due.read(s, PAINT + "999-950;");
        s.act(0, 0);
        b.due("999", s.at(0, 0, 0), 49);
    }

    private void endAtTheLength() {
        b.sentence("at the TOKEN's first byte (of the end at the length)");
        String[] tokens = ("repeat 2 { paint 0 0 1 1 ( x + 1 ) * - 2 / y - up ; repeat 3 { } } paste 0 0 0 1 1 to 0 0 ; "
                + "keep 2 0 0 ; flip 0 0 1 1 ;").split(" ");
        StringBuilder text = new StringBuilder();
        int open = 0;
        for (String token : tokens) {
            boolean whole = open == 0 && (text.length() == 0 || text.toString().endsWith("; ") || text.toString().endsWith("} "));
            if (whole) {
                fine(text.toString());
            } else {
                faulty(text.toString(), 1, text.length());
                faulty(text + "\n \n", 1, text.length() + 3);
                faulty(text.toString().stripTrailing(), 1, text.length() - 1);
            }
            // What is no token is a fault at its first byte wherever it stands.
            faulty(text + "@ @", 1, text.length());
            text.append(token).append(' ');
            open += token.equals("{") ? 1 : token.equals("}") ? -1 : 0;
        }
        fine(text.toString());
    }

    private void firstAsTokensComeTo() {
        b.sentence("FAULTS, the first as TOKENS are come to");
        faulty("keep 1 0 @", 2, 5);
        faulty("keep @ 1 0", 1, 5);
        faulty("keep 51 100 0;", 2, 5);
        faulty("keep 50 100 @", 2, 8);
        faulty(PAINT + "((((((((( 1000 @", 3, 22);
        faulty(PAINT + "1000 (((((((((", 2, 14);
        faulty(PAINT + "@ (((((((((", 1, 14);
        faulty(KEEP.repeat(16) + "keep 1 @", 4, 176);
        faulty(KEEP.repeat(15) + "keep 1 0 0;" + KEEP, 2, 170);
        faulty(KEEP.repeat(15) + "keep 2 0 @" + KEEP, 1, 174);
        faulty(KEEP.repeat(15) + PAINT + "((((((((( 1; " + KEEP, 3, 165 + 22);
    }

    private void ofOneTheLeast() {
        b.sentence("of one the least");
        // 1 or 2: a number that is none of those told, where no number can stand.
        faulty("1000", 1, 0);
        faulty(KEEP + "1000", 1, 11);
        faulty("keep 2 0 0 1000", 1, 11);
        faulty(PAINT + "1 1000;", 1, 16);
        faulty("repeat 1 1000", 1, 9);
        faulty("paste 0 0 0 1 1 1000", 1, 16);
        // 1 or 3: a ninth one that can't stand there.
        faulty(PAINT + "((((((((1(", 1, 23);
        faulty(PAINT + "(((((((({", 1, 22);
        faulty("repeat 1{".repeat(8) + "(", 1, 72);
        faulty("repeat 1{".repeat(8) + "{", 1, 72);
        faulty("repeat 1{".repeat(8) + "-", 1, 72);
        faulty("repeat 1{".repeat(8) + "repeat 1(", 1, 80);
        faulty("repeat 1{".repeat(8) + "repeat 1-", 1, 80);
        // 1 or 4: a seventeenth that is no act.
        faulty(KEEP.repeat(16) + "kept", 1, 176);
        faulty(KEEP.repeat(16) + "to", 1, 176);
        faulty(KEEP.repeat(16) + "}", 1, 176);
        faulty(KEEP.repeat(16) + "1000", 1, 176);
        faulty("repeat 1{" + KEEP.repeat(15) + "@", 1, 174);
        faulty("repeat 1{" + KEEP.repeat(15), 1, 174);
    }

    private void ninthThatIsOpen() {
        b.sentence("3 the 9th of ( { and - (of one ONE) that are open around one another (at it)");
        for (int n : new int[] {1, 7, 8}) {
            fine(PAINT + "(".repeat(n) + "1" + ")".repeat(n) + ";");
            fine(PAINT + "-".repeat(n) + "1;");
            fine(PAINT + "1-" + "-".repeat(n) + "1;");
            fine("repeat 1{".repeat(n) + "}".repeat(n));
        }
        for (int n : new int[] {9, 10}) {
            faulty(PAINT + "(".repeat(n) + "1" + ")".repeat(n) + ";", 3, 22);
            faulty(PAINT + "-".repeat(n) + "1;", 3, 22);
            faulty(PAINT + "1-" + "-".repeat(n) + "1;", 3, 24);
            faulty("repeat 1{".repeat(n) + "}".repeat(n), 3, 80);
        }
        faulty(PAINT + "(((((((( (", 3, 23);
        faulty(PAINT + "-------- -", 3, 23);
        faulty("repeat 1{".repeat(8) + "repeat 1 {", 3, 81);
    }

    private void ninthOfMixedOnes() {
        b.sentence("of ( { and - (of one ONE) that are open around one another");
        for (int braces = 0; braces <= 8; braces++) {
            String before = "repeat 1{".repeat(braces);
            String behind = "}".repeat(braces);
            for (int minuses = 0; minuses <= 8 - braces; minuses++) {
                int rounds = 8 - braces - minuses;
                String opened = before + PAINT + "-".repeat(minuses) + "(".repeat(rounds);
                String closed = ")".repeat(rounds) + ";" + behind;
                fine(opened + "1" + closed);
                faulty(opened + "(1)" + closed, 3, opened.length());
                faulty(opened + "-1" + closed, 3, opened.length());
                fine(opened + "1-1" + closed);
            }
        }
    }

    private void closedOnesDontCount() {
        b.sentence("that are open around one another");
        fine(PAINT + "(1)+(1)+(1)+(1)+(1)+(1)+(1)+(1)+(1)+(1);");
        fine(PAINT + "-1+-1+-1+-1+-1+-1+-1+-1+-1+-1;");
        fine(PAINT + "-1*-1*-1*-1*-1*-1*-1*-1*-1*-1;");
        fine(PAINT + "1-1-1-1-1-1-1-1-1-1-1-1-1-1-1;");
        fine("repeat 1{}".repeat(16));
        fine("repeat 1{".repeat(8) + "}".repeat(8) + PAINT + "((((((((1))))))));");
        // - is of one ONE: behind it the next ones are not within it.
        fine(PAINT + "-1*((((((((1))))))));");
        faulty(PAINT + "-((((((((1))))))));", 3, 22);
        fine(PAINT + "-(((((((1)))))))*((((((((1))))))));");
        fine(PAINT + "((((((((1))))))))-((((((((1))))))));");
        fine(PAINT + "(((((((-1-1)))))));");
        fine(PAINT + "(((((((-1*-1+-1)))))));");
    }

    private void seventeenthAct() {
        b.sentence("4 the 17th ACT (at its first TOKEN)");
        fine(KEEP.repeat(15));
        fine(KEEP.repeat(16));
        faulty(KEEP.repeat(17), 4, 176);
        faulty(KEEP.repeat(18), 4, 176);
        faulty(KEEP.repeat(16) + " \n keep", 4, 179);
        for (String act : new String[] {"paste", "paint", "keep", "flip", "repeat"}) {
            faulty(KEEP.repeat(16) + act, 4, 176);
        }
        fine(KEEP.repeat(16) + " \n ");
    }

    private void actsWithinRepeats() {
        b.sentence("{ACT}, 16 at most (those within repeat too)");
        fine("repeat 9{" + KEEP.repeat(15) + "}");
        faulty("repeat 9{" + KEEP.repeat(16) + "}", 4, 9 + 165);
        fine(KEEP.repeat(15) + "repeat 9{}");
        faulty(KEEP.repeat(15) + "repeat 9{" + KEEP + "}", 4, 174);
        faulty(KEEP.repeat(16) + "repeat 9{}", 4, 176);
        fine("repeat 9{" + KEEP.repeat(14) + "}" + KEEP);
        faulty("repeat 9{" + KEEP.repeat(15) + "}" + KEEP, 4, 9 + 165 + 1);
        fine("repeat 1{repeat 1{" + KEEP.repeat(7) + "}" + KEEP.repeat(7) + "}");
        faulty("repeat 1{repeat 1{" + KEEP.repeat(7) + "}" + KEEP.repeat(8) + "}", 4, 18 + 77 + 1 + 77);
        fine("repeat 1{}".repeat(16));
        faulty("repeat 1{}".repeat(17), 4, 160);
    }
}
