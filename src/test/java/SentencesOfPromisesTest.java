/**
 * The promises, sentence by sentence: a test for each, above all at its boundaries and for calls that
 * are refused. A test's name begins with the promise.
 */
public final class SentencesOfPromisesTest extends SentenceTest {
    public static void main(String[] args) throws Exception {
        Sentences.runAll(SentencesOfPromisesTest.class, "promise");
    }

    /** An object with a PUZZLE, GIVENS, MARKS, SETS and SOLUTIONS. */
    private static CellPictures busy() {
        CellPictures x = Look.loaded(FLAG);
        x.give(1, 1, 0);
        x.mark(0, 0, 1);
        x.mark(1, 1, 2);
        x.fresh();
        x.rule(0);
        x.search(2, 9);
        return x;
    }

    private static final String BUSY = "3 2 2;1a2b;;1a;1b;1b; runs 5 given 1 .../.0. marked 2 1../.2."
            + " sets 4 244/717 nodes 0 found 122/000 .../... wrong 1 done 0";

    // ---- 1: a new object

    @Sentence("An empty TAPE,")
    private static void promise1_anEmptyTape() {
        due("a byte", new CellPictures().end(1), NONE);
        due("no byte", new CellPictures().end(0), 0);
        due("feed", new CellPictures().feed(0, 0, 0, 0, 0), 20);
        due("load of nothing", new CellPictures().load(), -1);
    }

    @Sentence("no PUZZLE.")
    private static void promise1_noPuzzle() {
        CellPictures x = new CellPictures();
        for (int what = 0; what <= 7; what++) {
            due("about " + what, x.about(what), NONE);
        }
        due("level", x.level(), NONE);
    }

    // ---- 2: feed

    @Sentence("Twenty bytes come behind those on the TAPE, of each number the highest first:")
    private static void promise2_theHighestByteFirst() {
        CellPictures x = new CellPictures();
        // "3 2 1;2;1;1;2;; \n\n\n\n"
        x.feed(0x33203220, 0x313B323B, 0x313B313B, 0x323B3B20, 0x0A0A0A0A);
        due("load", x.load(), 4);
        due("the puzzle", Look.puzzle(x), "3 2 1;2a;1a;1a;2a;;");
        // behind 17 bytes, the last of which are overwritten: "1 1 3;1" and "c;1c; .."
        x.feed(0x31203120, 0x333B3131, 0x31313131, 0x31313131, 0x31313131);
        x.end(7);
        due("feed behind", x.feed(0x633B3163, 0x3B202020, 0x20202020, 0x20202020, 0x20202020), 27);
        due("load", x.load(), 2);
        due("the puzzle", Look.puzzle(x), "1 1 3;1c;1c;");
        // each of the twenty places
        for (int at = 0; at < 20; at++) {
            int[] n = {0x20202020, 0x20202020, 0x20202020, 0x20202020, 0x20202020};
            n[at / 4] = n[at / 4] & ~(0xFF << 24 - at % 4 * 8) | 'x' << 24 - at % 4 * 8;
            x.feed(n[0], n[1], n[2], n[3], n[4]);
            due("the place of byte " + at, x.load(), -1 - at);
        }
        // bytes above 127 are bytes
        due("feed", x.feed(0x20202020, -1, -1, -1, -1), 20);
        due("byte 255", x.load(), -5);
        x.feed(0x202020BB, 0, 0, 0, 0);
        due("byte 187, which is ; and 128", x.load(), -4);
    }

    @Sentence("how many there are;")
    private static void promise2_howManyThereAre() {
        CellPictures x = new CellPictures();
        for (int i = 1; i <= 45; i++) {
            due("feed " + i, x.feed(LEAST, MOST, -1, 0, 1), 20 * i);
        }
        x.end(7);
        due("behind seven", x.feed(0, 0, 0, 0, 0), 27);
        x.end(0);
        due("behind none", x.feed(0, 0, 0, 0, 0), 20);
    }

    @Sentence("NONE if there would be more than 900.")
    private static void promise2_noneAbove900() {
        CellPictures x = new CellPictures();
        Look.feed(x, " ".repeat(890) + "1 1 1;1;1;");
        due("feed of a full tape", x.feed(-1, -1, -1, -1, -1), NONE);
        due("feed of a full tape again", x.feed(-1, -1, -1, -1, -1), NONE);
        due("it has 900 still", x.end(901), NONE);
        due("nothing came on it", x.load(), 2);
        Look.feed(x, " ".repeat(871) + "1 1 1;1;1;");
        due("881 bytes and 20", x.feed(-1, -1, -1, -1, -1), NONE);
        due("it has 881 still", x.end(882), NONE);
        due("nothing came on it", x.load(), 2);
        Look.feed(x, " ".repeat(880));
        due("880 bytes and 20", x.feed(-1, -1, -1, -1, -1), 900);
        due("they came on it", x.load(), -881);
    }

    // ---- 3: end

    @Sentence("The TAPE has its first n bytes alone: n;")
    private static void promise3_theFirstNBytes() {
        CellPictures x = new CellPictures();
        Look.feed(x, "1 1 1;1;1;xxx");
        due("as many as it has", x.end(13), 13);
        due("the first ten", x.end(10), 10);
        due("the eleventh went", x.end(11), NONE);
        due("load", x.load(), 2);
        Look.feed(x, "1 1 1;1;1;");
        due("none", x.end(0), 0);
        due("none again", x.end(0), 0);
        due("a byte", x.end(1), NONE);
        due("load of nothing", x.load(), -1);
        Look.feed(x, "x".repeat(900));
        for (int n = 900; n >= 0; n -= 100) {
            due("end(" + n + ")", x.end(n), n);
        }
    }

    @Sentence("NONE if it has not so many,")
    private static void promise3_noneIfItHasNotSoMany() {
        CellPictures x = new CellPictures();
        for (int n : new int[] {1, 2, 20, 900, MOST}) {
            due("end(" + n + ") of nothing", x.end(n), NONE);
        }
        Look.feed(x, "1 1 1;1;1;");
        for (int n : new int[] {11, 20, 900, 901, MOST}) {
            due("end(" + n + ") of ten", x.end(n), NONE);
        }
        due("nothing changed", x.end(10), 10);
        due("load", x.load(), 2);
        Look.feed(x, " ".repeat(900));
        due("end(901) of 900", x.end(901), NONE);
        due("end(900) of 900", x.end(900), 900);
    }

    @Sentence("or n is below 0.")
    private static void promise3_noneBelow0() {
        CellPictures x = new CellPictures();
        due("end(-1) of nothing", x.end(-1), NONE);
        Look.feed(x, "1 1 1;1;1;");
        for (int n : new int[] {-1, -2, -10, -900, LEAST}) {
            due("end(" + n + ")", x.end(n), NONE);
        }
        due("nothing changed", x.end(10), 10);
        due("load", x.load(), 2);
    }

    // ---- 4: load

    @Sentence("The TAPE (empty then) becomes the PUZZLE,")
    private static void promise4_theTapeIsEmptyThen() {
        CellPictures x = new CellPictures();
        Look.feed(x, FLAG);
        due("load", x.load(), 5);
        due("the puzzle", Look.puzzle(x), "3 2 2;1a2b;;1a;1b;1b;");
        due("a byte behind it", x.end(1), NONE);
        due("load of nothing", x.load(), -1);
        due("its fault", x.fault(), 2);
        Look.feed(x, TWO);
        due("feed is from the first byte on", x.load(), 4);
        // the runs of the puzzle ahead of it are gone
        Look.feed(x, "3 1 1;1 1;1;;1;");
        due("load", x.load(), 4);
        Look.feed(x, "3 1 1;1;;;1;");
        due("load of fewer runs", x.load(), 2);
        due("the puzzle", Look.puzzle(x), "3 1 1;1a;;;1a;");
        x.fresh();
        due("its ways", x.ways(0), 3);
        due("its rule", x.rule(0), 0);
        due("its rest", x.rest(), 8);
        due("its sets", Look.sets(x), "112");
        Look.feed(x, TWO + "x");
        due("load with a fault", x.load(), -15);
        due("a byte behind a fault", x.end(1), NONE);
        due("feed behind a fault", x.feed(0, 0, 0, 0, 0), 20);
    }

    @Sentence("without GIVENS and MARKS:")
    private static void promise4_withoutGivensAndMarks() {
        CellPictures x = busy();
        Look.feed(x, FLAG);
        due("load", x.load(), 5);
        due("all of it", Look.state(x), "3 2 2;1a2b;;1a;1b;1b; runs 5 given 0 .../... marked 0 .../... sets 0 .../..."
                + " nodes -1 found .../... .../... wrong -1 done 0");
    }

    @Sentence("how many RUNS it has;")
    private static void promise4_howManyRuns() {
        CellPictures x = new CellPictures();
        Look.feed(x, "1 1 1;;;");
        due("the fewest", x.load(), 0);
        Look.feed(x, "1 1 1;1;1;");
        due("two", x.load(), 2);
        String a = "1a1b".repeat(6) + ";";
        String b = "1b1a".repeat(6) + ";";
        Look.feed(x, "12 12 2;" + (a + b).repeat(12));
        due("the most", x.load(), 288);
        due("as about tells", x.about(4), 288);
    }

    @Sentence("-1 less the place of a FAULT:")
    private static void promise4_lessThePlaceOfAFault() {
        CellPictures x = new CellPictures();
        Look.feed(x, "x");
        due("at the first byte", x.load(), -1);
        Look.feed(x, "1x");
        due("at the second", x.load(), -2);
        Look.feed(x, " ".repeat(899) + "x");
        due("at the last of 900", x.load(), -900);
        Look.feed(x, " ".repeat(900));
        due("behind 900", x.load(), -901);
    }

    @Sentence("all stays as it was.")
    private static void promise4_allStaysWithAFault() {
        String[] texts = {"x", "", "13 1 1;", "1 1 1;0;", "1 1 1;" + "1 ".repeat(13), "1 1 1;2;", "1 1 1;1;;"};
        for (String text : texts) {
            CellPictures x = busy();
            due("ahead", Look.state(x), BUSY);
            Look.feed(x, text);
            due("load of '" + text + "' is refused", x.load() < 0, true);
            due("behind '" + text + "'", Look.state(x), BUSY);
        }
        CellPictures none = new CellPictures();
        none.load();
        due("no puzzle stays none", none.about(0), NONE);
    }

    // ---- 5: fault

    @Sentence("The kind of the FAULT of the latest load();")
    private static void promise5_theLatestFault() {
        CellPictures x = new CellPictures();
        String[] texts = {"x", "", "13 1 1;", "1 1 1;0;", "1 1 1;" + "1 ".repeat(13), "1 1 1;2;", "1 1 1;1;;"};
        for (int i = 0; i < texts.length; i++) {
            Look.feed(x, texts[i]);
            x.load();
            due("fault of '" + texts[i] + "'", x.fault(), i + 1);
            due("fault again", x.fault(), i + 1);
        }
        Look.feed(x, "xxx");
        x.blank(1, 1, 1);
        x.draw();
        due("other calls leave it", x.fault(), 7);
    }

    @Sentence("0 without one,")
    private static void promise5_noFault() {
        CellPictures x = Look.loaded(TWO);
        due("fault of a good text", x.fault(), 0);
        x.load();
        due("fault of an empty one", x.fault(), 2);
        Look.feed(x, TWO);
        x.load();
        due("fault of a good text behind it", x.fault(), 0);
    }

    @Sentence("or ahead of any.")
    private static void promise5_aheadOfAnyLoad() {
        CellPictures x = new CellPictures();
        due("fault of a new object", x.fault(), 0);
        Look.feed(x, "xxx");
        x.blank(13, 1, 1);
        x.blank(1, 1, 1);
        due("fault ahead of any load", x.fault(), 0);
    }

    // ---- 6: blank

    @Sentence("A PUZZLE of that size without any RUNS, GIVENS, MARKS:")
    private static void promise6_aBlankPuzzle() {
        for (int w = 1; w <= 12; w++) {
            for (int h = 1; h <= 12; h++) {
                CellPictures x = new CellPictures();
                int c = 1 + (w + h) % 3;
                due("blank", x.blank(w, h, c), true);
                due("width", x.about(0), w);
                due("height", x.about(1), h);
                due("colours", x.about(2), c);
                due("runs", x.about(4), 0);
            }
        }
        CellPictures x = busy();
        Look.feed(x, "1");
        due("blank", x.blank(3, 2, 2), true);
        due("all of it", Look.state(x), "3 2 2;;;;;; runs 0 given 0 .../... marked 0 .../... sets 0 .../..."
                + " nodes -1 found .../... .../... wrong -1 done 1");
        due("the tape stays", x.end(1), 1);
    }

    @Sentence("false for others than told.")
    private static void promise6_falseForOtherSizes() {
        int[] sides = {0, 13, -1, LEAST, MOST, 256 + 1};
        int[] colours = {0, 4, -1, LEAST, MOST, 256 + 1};
        CellPictures none = new CellPictures();
        for (int i = 0; i < 6; i++) {
            CellPictures x = busy();
            due("width " + sides[i], x.blank(sides[i], 1, 1), false);
            due("height " + sides[i], x.blank(1, sides[i], 1), false);
            due("colours " + colours[i], x.blank(1, 1, colours[i]), false);
            due("all stays", Look.state(x), BUSY);
            due("without a puzzle", none.blank(1, sides[i], 1), false);
        }
        due("there is none still", none.about(0), NONE);
    }

    // ---- 7: about

    @Sentence("what 0 W, 1 H, 2 C, 3 LINES, 4 RUNS, 5 GIVENS, 6 MARKS,")
    private static void promise7_whatThereIs() {
        int[][] wants = {{3, 2, 2, 5, 5, 1, 2}, {1, 1, 1, 2, 0, 0, 0}, {12, 12, 3, 24, 0, 144, 144}};
        CellPictures full = Look.blank(12, 12, 3);
        for (int i = 0; i < 144; i++) {
            full.give(i % 12, i / 12, i % 4);
            full.mark(i % 12, i / 12, i % 4);
        }
        CellPictures[] all = {busy(), Look.blank(1, 1, 1), full};
        for (int i = 0; i < 3; i++) {
            for (int what = 0; what <= 6; what++) {
                due("about " + what, all[i].about(what), wants[i][what]);
            }
        }
        full.give(11, 11, NONE);
        full.give(11, 11, NONE);
        full.give(0, 0, 3);
        full.mark(11, 11, NONE);
        full.mark(11, 11, NONE);
        full.mark(0, 0, 3);
        due("one given less", full.about(5), 143);
        due("one mark less", full.about(6), 143);
        full.draw();
        due("no givens", full.about(5), 0);
    }

    @Sentence("7 cells whose SET (4) has one VALUE.")
    private static void promise7_cellsOfOneValue() {
        CellPictures x = Look.loaded(FLAG);
        due("without sets", x.about(7), 0);
        x.give(2, 0, 2);
        due("a given without sets", x.about(7), 0);
        x.fresh();
        due("a given", x.about(7), 1);
        x.rule(1);
        due("and a row", x.about(7), 4);
        x.rest();
        due("all", x.about(7), 6);
        Look.feed(x, FLAG);
        x.load();
        due("with a new puzzle", x.about(7), 0);
        CellPictures two = Look.loaded(TWO);
        two.rest();
        due("none", two.about(7), 0);
        for (int v = 1; v <= 3; v++) {
            String row = Integer.toString(v).repeat(12);
            CellPictures full = Look.drawn(3, (row + "/").repeat(11) + row);
            full.rest();
            due("all of the largest", full.about(7), 144);
        }
    }

    @Sentence("NONE: no PUZZLE,")
    private static void promise7_noPuzzle() {
        CellPictures x = new CellPictures();
        for (int what = -1; what <= 8; what++) {
            due("about " + what, x.about(what), NONE);
        }
    }

    @Sentence("another what.")
    private static void promise7_anotherWhat() {
        CellPictures x = busy();
        for (int what : new int[] {-1, 8, 9, -8, LEAST, MOST}) {
            due("about " + what, x.about(what), NONE);
        }
    }

    // ---- 8: run

    @Sentence("Of RUN k of a LINE, what 0 its length, 1 its colour;")
    private static void promise8_lengthAndColour() {
        CellPictures x = Look.loaded(FLAG);
        due("the first length", x.run(0, 0, 0), 1);
        due("the first colour", x.run(0, 0, 1), 1);
        due("the last length of row 0", x.run(0, 1, 0), 2);
        due("the last colour of row 0", x.run(0, 1, 1), 2);
        due("the length of the last line", x.run(4, 0, 0), 1);
        due("the colour of the last line", x.run(4, 0, 1), 2);
        CellPictures full = Look.drawn(2, "121212121212/212121212121");
        due("the 12th length", full.run(1, 11, 0), 1);
        due("the 12th colour", full.run(1, 11, 1), 1);
        due("a length of 12", Look.drawn(1, "1".repeat(12)).run(0, 0, 0), 12);
    }

    @Sentence("for k NONE how many there are.")
    private static void promise8_howManyThereAre() {
        CellPictures x = Look.loaded(FLAG);
        int[] counts = {2, 0, 1, 1, 1};
        for (int line = 0; line < 5; line++) {
            due("runs of line " + line, x.run(line, NONE, 0), counts[line]);
        }
        due("the most", Look.drawn(2, "121212121212").run(0, NONE, 0), 12);
    }

    @Sentence("NONE: no such LINE,")
    private static void promise8_noSuchLine() {
        CellPictures x = Look.loaded(FLAG);
        for (int line : new int[] {-1, 5, 6, 23, 24, 32, WRAPS, LEAST, MOST}) {
            due("runs of line " + line, x.run(line, NONE, 0), NONE);
            due("length of line " + line, x.run(line, 0, 0), NONE);
        }
        CellPictures full = Look.blank(12, 12, 1);
        due("line 23", full.run(23, NONE, 0), 0);
        due("line 24", full.run(24, NONE, 0), NONE);
    }

    @Sentence("RUN,")
    private static void promise8_noSuchRun() {
        CellPictures x = Look.loaded(FLAG);
        for (int k : new int[] {2, 3, 12, -2, -12, WRAPS, LEAST, MOST}) {
            due("run " + k, x.run(0, k, 0), NONE);
            due("run " + k, x.run(0, k, 1), NONE);
        }
        due("the first of none", x.run(1, 0, 0), NONE);
        // lines that had more runs ahead of a new puzzle
        x.blank(3, 2, 2);
        due("the first of a blank", x.run(0, 0, 0), NONE);
        CellPictures full = Look.drawn(2, "121212121212/212121212121");
        due("the 13th", full.run(0, 12, 0), NONE);
    }

    @Sentence("what (not looked at for k NONE),")
    private static void promise8_noSuchWhat() {
        CellPictures x = Look.loaded(FLAG);
        for (int what : new int[] {2, -1, LEAST, MOST}) {
            due("what " + what, x.run(0, 0, what), NONE);
            due("what " + what + " for k NONE", x.run(0, NONE, what), 2);
        }
    }

    @Sentence("no PUZZLE.")
    private static void promise8_noPuzzle() {
        CellPictures x = new CellPictures();
        due("runs", x.run(0, NONE, 0), NONE);
        due("a length", x.run(0, 0, 0), NONE);
    }

    // ---- 9: give

    @Sentence("A cell is GIVEN a VALUE,")
    private static void promise9_aCellIsGiven() {
        CellPictures x = Look.loaded(FLAG);
        due("the first cell the highest value", x.give(0, 0, 2), true);
        due("the last cell the least", x.give(2, 1, 0), true);
        due("the givens", Look.givens(x), "2../..0");
        due("again another", x.give(0, 0, 1), true);
        due("the givens", Look.givens(x), "1../..0");
        due("how many", x.about(5), 2);
        x.fresh();
        x.give(1, 0, 2);
        due("sets stay", Look.sets(x), "277/771");
        due("marks stay", x.about(6), 0);
    }

    @Sentence("or (v NONE) is none of the GIVENS.")
    private static void promise9_aCellIsGivenNoMore() {
        CellPictures x = busy();
        due("take it", x.give(1, 1, NONE), true);
        due("given", x.given(1, 1), NONE);
        due("givens", x.about(5), 0);
        due("take one that is none", x.give(0, 0, NONE), true);
        due("givens", x.about(5), 0);
    }

    @Sentence("False: no PUZZLE,")
    private static void promise9_noPuzzle() {
        CellPictures x = new CellPictures();
        due("give", x.give(0, 0, 0), false);
        due("take", x.give(0, 0, NONE), false);
        x.blank(1, 1, 1);
        due("nothing is given", x.about(5), 0);
    }

    /** For a grid of 3 by 2 cells. */
    private static final int[][] NO_CELLS = {{-1, 0}, {0, -1}, {3, 0}, {0, 2}, {3, 1}, {2, 2}, {12, 0}, {0, 12},
        {-12, 1}, {0, WRAPS}, {WRAPS, 0}, {LEAST, 0}, {0, LEAST}, {MOST, 0}, {0, MOST}, {LEAST, LEAST}, {MOST, MOST}};

    @Sentence("no such cell,")
    private static void promise9_noSuchCell() {
        CellPictures x = busy();
        for (int[] cell : NO_CELLS) {
            due("give " + cell[0] + ", " + cell[1], x.give(cell[0], cell[1], 1), false);
            due("take " + cell[0] + ", " + cell[1], x.give(cell[0], cell[1], NONE), false);
        }
        due("all stays, the solutions too", Look.state(x), BUSY);
        due("x 12 of twelve", Look.blank(12, 12, 1).give(12, 11, 0), false);
        due("y 12 of twelve", Look.blank(12, 12, 1).give(11, 12, 0), false);
    }

    @Sentence("VALUE.")
    private static void promise9_noSuchValue() {
        CellPictures x = busy();
        for (int v : new int[] {3, 4, -2, 32, LEAST, MOST}) {
            due("give " + v, x.give(1, 1, v), false);
        }
        due("all stays, the solutions too", Look.state(x), BUSY);
        due("3 of three", Look.blank(1, 1, 3).give(0, 0, 3), true);
        due("4 of three", Look.blank(1, 1, 3).give(0, 0, 4), false);
        due("2 of one", Look.blank(1, 1, 1).give(0, 0, 2), false);
    }

    // ---- 10: given

    @Sentence("The VALUE of a GIVEN.")
    private static void promise10_theValueOfAGiven() {
        CellPictures x = Look.blank(12, 12, 3);
        x.give(0, 0, 0);
        x.give(11, 11, 3);
        due("a blank", x.given(0, 0), 0);
        due("the highest", x.given(11, 11), 3);
    }

    @Sentence("NONE: it is none,")
    private static void promise10_itIsNone() {
        CellPictures x = busy();
        due("a cell", x.given(0, 0), NONE);
        x.mark(0, 0, 1);
        due("a marked cell", x.given(0, 0), NONE);
        x.give(1, 1, NONE);
        due("a cell that was given", x.given(1, 1), NONE);
    }

    @Sentence("no such cell,")
    private static void promise10_noSuchCell() {
        CellPictures x = Look.blank(3, 2, 1);
        for (int i = 0; i < 6; i++) {
            x.give(i % 3, i / 3, 1);
        }
        for (int[] cell : NO_CELLS) {
            due("given " + cell[0] + ", " + cell[1], x.given(cell[0], cell[1]), NONE);
        }
    }

    @Sentence("no PUZZLE.")
    private static void promise10_noPuzzle() {
        due("given", new CellPictures().given(0, 0), NONE);
    }

    // ---- 11: fresh

    @Sentence("SETS become the FIRST ones.")
    private static void promise11_theFirstSets() {
        CellPictures x = Look.loaded(FLAG);
        x.give(1, 1, 2);
        due("fresh", x.fresh(), true);
        due("sets", Look.sets(x), "777/747");
        x.rule(0);
        x.give(1, 1, NONE);
        x.give(0, 0, 0);
        due("fresh again", x.fresh(), true);
        due("sets", Look.sets(x), "177/777");
        x.rest();
        x.give(0, 0, NONE);
        x.mark(0, 0, 1);
        due("fresh behind what fails", x.fresh(), true);
        due("marks tell nothing", Look.sets(x), "777/777");
    }

    @Sentence("(There are none with each new PUZZLE, till fresh(), rest() or tries().)")
    private static void promise11_noSetsWithANewPuzzle() {
        CellPictures x = Look.loaded(TWO);
        for (int way = 0; way < 9; way++) {
            due("sets " + way, x.set(0, 0), NONE);
            x.search(2, 9);
            x.level();
            x.hint();
            x.give(0, 0, 1);
            x.mark(0, 0, 1);
            due("other calls make none", x.set(0, 0), NONE);
            due(way % 3 == 0 ? "fresh" : way % 3 == 1 ? "rest" : "tries",
                    way % 3 == 0 ? (x.fresh() ? 1 : 0) : way % 3 == 1 ? x.rest() : x.tries(),
                    way % 3 == 0 ? 1 : way % 3 == 1 ? 8 : 0);
            due("then there are", x.set(0, 0), 2);
            if (way / 3 == 0) {
                x.mark(1, 1, 1);
                x.draw();
            } else if (way / 3 == 1) {
                x.blank(2, 2, 1);
                Look.mark(x, "1./.1");
                x.draw();
            } else {
                Look.feed(x, TWO);
                x.load();
            }
        }
    }

    @Sentence("False: no PUZZLE.")
    private static void promise11_noPuzzle() {
        CellPictures x = new CellPictures();
        due("fresh", x.fresh(), false);
        x.blank(1, 1, 1);
        due("it made no sets", x.set(0, 0), NONE);
    }

    // ---- 12: rule

    @Sentence("The LINE RULE on a LINE with the SETS:")
    private static void promise12_theLineRuleWithTheSets() {
        CellPictures x = Look.loaded(FLAG);
        x.fresh();
        x.rule(0);
        due("a row", Look.sets(x), "244/777");
        x.fresh();
        x.rule(2);
        due("a column", Look.sets(x), "377/377");
        x.rule(4);
        due("the last column", Look.sets(x), "375/375");
        x.rule(0);
        due("with those sets", Look.sets(x), "244/375");
        x.rule(1);
        due("another row", Look.sets(x), "244/111");
    }

    @Sentence("how many SETS became smaller;")
    private static void promise12_howManyBecameSmaller() {
        CellPictures x = Look.loaded(FLAG);
        x.fresh();
        due("all of a row", x.rule(0), 3);
        due("none of it again", x.rule(0), 0);
        due("one of a column", x.rule(2), 1);
        CellPictures full = Look.blank(12, 12, 3);
        full.fresh();
        due("all of the last line", full.rule(23), 12);
        due("one less of a row", full.rule(11), 11);
        CellPictures y = Look.loaded("5 1 1;3;1;1;1;;;");
        y.fresh();
        due("one of five", y.rule(0), 1);
        CellPictures z = Look.loaded("4 1 3;1a1b1c;1;1b;1c;;");
        z.fresh();
        due("a set that loses two is one", z.rule(0), 4);
    }

    @Sentence("-2: it FAILS.")
    private static void promise12_itFails() {
        CellPictures x = Look.loaded(TWO);
        x.give(0, 0, 1);
        x.give(1, 0, 1);
        x.fresh();
        due("a row", x.rule(0), -2);
        due("nothing changes", Look.sets(x), "22/33");
        due("it fails again", x.rule(0), -2);
        due("another does not", x.rule(1), 0);
    }

    @Sentence("NONE: no PUZZLE,")
    private static void promise12_noPuzzle() {
        due("rule", new CellPictures().rule(0), NONE);
    }

    private static final int[] NO_LINES = {-1, -2, 5, 6, 23, 24, 32, WRAPS, LEAST, MOST};

    @Sentence("no such LINE,")
    private static void promise12_noSuchLine() {
        CellPictures x = busy();
        for (int line : NO_LINES) {
            due("rule " + line, x.rule(line), NONE);
        }
        due("all stays", Look.state(x), BUSY);
        CellPictures full = Look.blank(12, 12, 1);
        full.fresh();
        due("line 24", full.rule(24), NONE);
    }

    @Sentence("no SETS.")
    private static void promise12_noSets() {
        CellPictures x = Look.loaded(TWO);
        due("rule", x.rule(0), NONE);
        due("it made none", x.set(0, 0), NONE);
        x.fresh();
        x.mark(0, 0, 1);
        x.draw();
        due("rule of a new puzzle", x.rule(0), NONE);
    }

    // ---- 13: ways

    @Sentence("How many WAYS a LINE has with the SETS.")
    private static void promise13_howManyWays() {
        CellPictures x = Look.loaded("5 2 1;3;;1;1;1;;;");
        x.fresh();
        due("a row", x.ways(0), 3);
        due("no runs", x.ways(1), 1);
        due("a column", x.ways(2), 2);
        due("a column without runs", x.ways(6), 1);
        x.rule(6);
        due("with the sets", x.ways(0), 2);
        due("the sets stay", Look.sets(x), "33331/33331");
        x.give(1, 0, 0);
        due("a given changes no sets", x.ways(0), 2);
        x.fresh();
        due("with a given", x.ways(0), 1);
        x.give(3, 0, 0);
        x.fresh();
        due("none", x.ways(0), 0);
        CellPictures most = Look.drawn(2, "121212......");
        most.fresh();
        due("the most", most.ways(0), 924);
    }

    @Sentence("NONE: likewise.")
    private static void promise13_likewiseNoPuzzle() {
        due("ways", new CellPictures().ways(0), NONE);
    }

    @Sentence("NONE: likewise.")
    private static void promise13_likewiseNoSuchLine() {
        CellPictures x = busy();
        for (int line : NO_LINES) {
            due("ways " + line, x.ways(line), NONE);
        }
        CellPictures full = Look.blank(12, 12, 1);
        full.fresh();
        due("line 23", full.ways(23), 1);
        due("line 24", full.ways(24), NONE);
    }

    @Sentence("NONE: likewise.")
    private static void promise13_likewiseNoSets() {
        CellPictures x = Look.loaded(FLAG);
        due("ways", x.ways(0), NONE);
        due("it made none", x.set(0, 0), NONE);
        x.fresh();
        x.blank(3, 2, 2);
        due("ways of a new puzzle", x.ways(0), NONE);
    }

    // ---- 14: rest

    @Sentence("The SETS (FIRST ones, if there are none) are brought to REST:")
    private static void promise14_setsAreBroughtToRest() {
        CellPictures x = Look.loaded(TWO);
        x.give(0, 0, 1);
        due("with the first ones", x.rest(), 8);
        due("sets", Look.sets(x), "21/12");
        x.give(0, 0, 0);
        due("with those that there are", x.rest(), 4);
        due("sets", Look.sets(x), "21/12");
        x.fresh();
        due("with fresh ones", x.rest(), 8);
        due("sets", Look.sets(x), "12/21");
    }

    @Sentence("USES;")
    private static void promise14_uses() {
        due("the fewest", Look.drawn(1, "1").rest(), 4);
        CellPictures x = Look.drawn(1, "1");
        x.rest();
        due("the fewest at rest", x.rest(), 2);
        due("no set becomes smaller", Look.loaded(TWO).rest(), 4);
        CellPictures full = Look.blank(12, 12, 1);
        due("of 24 lines", full.rest(), 48);
        due("of 24 lines at rest", full.rest(), 24);
    }

    @Sentence("-2: it FAILS (SETS stay as small as they had become).")
    private static void promise14_itFails() {
        CellPictures x = Look.loaded(NO_WAY);
        due("rest", x.rest(), -2);
        due("sets", Look.sets(x), "212/223");
        // now row 1 tells its last cell ahead of column 1, which fails
        due("rest again", x.rest(), -2);
        due("sets", Look.sets(x), "212/221");
        due("and again", x.rest(), -2);
        due("sets", Look.sets(x), "212/221");
        due("cells of one value", x.about(7), 6);
    }

    @Sentence("NONE: no PUZZLE.")
    private static void promise14_noPuzzle() {
        CellPictures x = new CellPictures();
        due("rest", x.rest(), NONE);
        x.blank(1, 1, 1);
        due("it made no sets", x.set(0, 0), NONE);
    }

    // ---- 15: tries

    @Sentence("Likewise, then TRYING:")
    private static void promise15_restThenTrying() {
        CellPictures x = Look.drawn(1, BY_TRYING);
        due("with the first sets", x.tries(), 1);
        due("sets", Look.sets(x), "12/21/21/12");
        x.give(0, 0, 1);
        due("with those that there are", x.tries(), 0);
        due("sets", Look.sets(x), "12/21/21/12");
        CellPictures y = Look.drawn(1, ".1./111/.1.");
        due("rest tells all", y.tries(), 0);
        due("sets", Look.sets(y), "121/222/121");
    }

    @Sentence("how many VALUES left by it (not those that left by the LINE RULE);")
    private static void promise15_howManyLeft() {
        CellPictures x = Look.drawn(1, BY_TRYING);
        x.rest();
        due("cells of one value ahead", x.about(7), 0);
        due("one of eight", x.tries(), 1);
        due("cells of one value behind", x.about(7), 8);
        due("none", x.tries(), 0);
        due("none at all", Look.loaded(TWO).tries(), 0);
        due("two of one cell are two", Look.drawn(2, "1..1/.1../.1.2/2.1./.22.").tries(), 5);
    }

    @Sentence("-2: REST or it FAILS (SETS stay likewise).")
    private static void promise15_itFails() {
        CellPictures rest = Look.loaded(NO_WAY);
        due("rest fails", rest.tries(), -2);
        due("sets", Look.sets(rest), "212/223");
        CellPictures x = Look.loaded(NO_TRYING);
        due("trying fails", x.tries(), -2);
        due("sets", Look.sets(x), "2133/1212/1212/2133");
        due("then rest fails", x.tries(), -2);
    }

    @Sentence("NONE: no PUZZLE.")
    private static void promise15_noPuzzle() {
        CellPictures x = new CellPictures();
        due("tries", x.tries(), NONE);
        x.blank(1, 1, 1);
        due("it made no sets", x.set(0, 0), NONE);
    }

    // ---- 16: set

    @Sentence("A cell's SET: the sum of 2^v for its VALUES v.")
    private static void promise16_theSumOfAllValues() {
        CellPictures x = Look.blank(12, 12, 3);
        for (int v = 0; v <= 3; v++) {
            x.give(11, 11, v);
            x.fresh();
            due("the set of " + v, x.set(11, 11), 1 << v);
        }
        due("all values", x.set(0, 0), 15);
        CellPictures y = Look.loaded("4 1 3;1a1b1c;1;1b;1c;;");
        y.fresh();
        y.rule(0);
        due("0, 1", y.set(0, 0), 3);
        due("0, 1, 2", y.set(1, 0), 7);
        due("0, 2, 3", y.set(2, 0), 13);
        due("0, 3", y.set(3, 0), 9);
    }

    @Sentence("NONE: no PUZZLE,")
    private static void promise16_noPuzzle() {
        due("set", new CellPictures().set(0, 0), NONE);
    }

    @Sentence("no such cell,")
    private static void promise16_noSuchCell() {
        CellPictures x = busy();
        for (int[] cell : NO_CELLS) {
            due("set " + cell[0] + ", " + cell[1], x.set(cell[0], cell[1]), NONE);
        }
        CellPictures full = Look.blank(12, 12, 1);
        full.fresh();
        due("the last", full.set(11, 11), 3);
        due("x 12", full.set(12, 11), NONE);
        due("y 12", full.set(11, 12), NONE);
    }

    @Sentence("no SETS.")
    private static void promise16_noSets() {
        CellPictures x = Look.loaded(TWO);
        due("set", x.set(0, 0), NONE);
        x.fresh();
        due("set", x.set(0, 0), 3);
        x.draw();
        due("set of a new puzzle", x.set(0, 0), NONE);
    }

    // ---- 17: search

    @Sentence("SEARCH from the FIRST SETS for n SOLUTIONS (1 to 50)")
    private static void promise17_oneToFifty() {
        CellPictures x = Look.loaded("12 12 1;" + "1;".repeat(24));
        for (int n : new int[] {1, 2, 49, 50}) {
            due("search for " + n, x.search(n, 1000), n);
        }
        for (int n : new int[] {0, 51}) {
            due("search for " + n, x.search(n, 1000), NONE);
        }
        CellPictures y = Look.loaded(TWO);
        y.give(0, 0, 1);
        y.fresh();
        y.rest();
        y.give(0, 0, NONE);
        due("from the first sets", y.search(50, 1000), 2);
    }

    @Sentence("with that many NODES (0 to 1000) at most:")
    private static void promise17_noneToAThousandNodes() {
        CellPictures x = Look.drawn(1, ABOVE_1000_NODES);
        for (int nodes : new int[] {0, 1, 2, 999, 1000}) {
            due("search with " + nodes, x.search(2, nodes), -2);
            due("nodes of " + nodes, x.nodes(), nodes);
        }
        due("search with 1001", x.search(2, 1001), NONE);
        due("search with -1", x.search(2, -1), NONE);
        CellPictures six = Look.loaded(SIX);
        due("just enough", six.search(50, 10), 6);
        due("one less", six.search(50, 9), -2);
    }

    @Sentence("how many were found;")
    private static void promise17_howManyWereFound() {
        due("none", Look.loaded(NO_WAY).search(50, 1000), 0);
        due("one", Look.loaded(FLAG).search(50, 1000), 1);
        due("two", Look.loaded(TWO).search(50, 1000), 2);
        due("six", Look.loaded(SIX).search(50, 1000), 6);
        due("four of six", Look.loaded(SIX).search(4, 1000), 4);
    }

    @Sentence("-2: it was SPENT (found ones are kept).")
    private static void promise17_itWasSpent() {
        CellPictures x = Look.loaded(TWO);
        due("ahead of the first node", x.search(2, 0), -2);
        due("none is kept", Look.solution(x, 0), "../..");
        due("ahead of the second", x.search(2, 1), -2);
        due("the first is kept", Look.solution(x, 0), "01/10");
        due("no other is", Look.solution(x, 1), "../..");
        CellPictures six = Look.loaded(SIX);
        due("behind five", six.search(50, 9), -2);
        due("the first", Look.solution(six, 0), "001/010/100");
        due("the second", Look.solution(six, 1), "001/100/010");
        due("the next is not", six.search(50, 10), 6);
    }

    @Sentence("NONE: no PUZZLE,")
    private static void promise17_noPuzzle() {
        CellPictures x = new CellPictures();
        due("search", x.search(1, 1), NONE);
        due("nodes", x.nodes(), NONE);
    }

    private static final int[][] NO_SEARCHES = {{0, 5}, {51, 5}, {-1, 5}, {LEAST, 5}, {MOST, 5}, {1, -1}, {1, 1001},
        {1, LEAST}, {1, MOST}, {0, -1}, {51, 1001}};

    @Sentence("other numbers.")
    private static void promise17_otherNumbers() {
        CellPictures x = busy();
        CellPictures ahead = Look.loaded(TWO);
        for (int[] n : NO_SEARCHES) {
            due("search " + n[0] + ", " + n[1], x.search(n[0], n[1]), NONE);
            due("search " + n[0] + ", " + n[1] + " ahead of any", ahead.search(n[0], n[1]), NONE);
        }
        due("all stays", Look.state(x), BUSY);
        due("nodes ahead of any", ahead.nodes(), NONE);
    }

    @Sentence("(SETS stay as they are.)")
    private static void promise17_setsStay() {
        CellPictures x = Look.loaded(SIX);
        x.search(2, 100);
        due("there are none still", Look.sets(x), ".../.../...");
        x.give(1, 1, 1);
        x.fresh();
        x.rule(1);
        x.search(2, 100);
        due("sets", Look.sets(x), "333/121/333");
        x.give(1, 0, 1);
        due("nothing is found", x.search(2, 100), 0);
        due("sets", Look.sets(x), "333/121/333");
        x.give(1, 1, NONE);
        x.give(1, 0, NONE);
        due("spent", x.search(2, 1), -2);
        due("sets", Look.sets(x), "333/121/333");
    }

    // ---- 18: nodes

    @Sentence("NODES of the latest search() that was not NONE;")
    private static void promise18_nodesOfTheLatest() {
        CellPictures x = Look.loaded(TWO);
        x.search(2, 5);
        due("two", x.nodes(), 2);
        x.search(1, 5);
        due("one", x.nodes(), 1);
        x.search(2, 0);
        due("none of one that was spent", x.nodes(), 0);
        x.search(2, 2);
        due("two", x.nodes(), 2);
        for (int[] n : NO_SEARCHES) {
            x.search(n[0], n[1]);
            due("behind a search that was refused", x.nodes(), 2);
        }
        x.give(0, 0, 1);
        x.level();
        Look.mark(x, "1./.1");
        x.mend();
        due("with givens told since", x.nodes(), 2);
        x.search(2, 5);
        due("without any", x.nodes(), 0);
        CellPictures most = Look.drawn(1, ABOVE_1000_NODES);
        most.search(2, 1000);
        due("the most", most.nodes(), 1000);
    }

    @Sentence("NONE ahead of any,")
    private static void promise18_aheadOfAny() {
        CellPictures x = new CellPictures();
        due("of a new object", x.nodes(), NONE);
        Look.feed(x, TWO);
        x.load();
        due("ahead of any", x.nodes(), NONE);
        x.level();
        Look.mark(x, "1./.1");
        x.mend();
        x.search(0, 5);
        due("other calls tell none", x.nodes(), NONE);
    }

    @Sentence("or with a PUZZLE that came since.")
    private static void promise18_aPuzzleThatCameSince() {
        CellPictures x = busy();
        x.draw();
        due("by draw", x.nodes(), NONE);
        CellPictures y = busy();
        y.blank(3, 2, 2);
        due("by blank", y.nodes(), NONE);
        CellPictures z = busy();
        Look.feed(z, FLAG);
        z.load();
        due("by load", z.nodes(), NONE);
        CellPictures w = busy();
        w.blank(0, 2, 2);
        w.load();
        due("by none, if it was refused", w.nodes(), 0);
    }

    // ---- 19: solution

    @Sentence("The VALUE of a cell in SOLUTION k (0, 1: the first two alone are kept) of that search().")
    private static void promise19_theFirstTwo() {
        CellPictures x = Look.loaded(SIX);
        due("search", x.search(50, 100), 6);
        due("0", Look.solution(x, 0), "001/010/100");
        due("1", Look.solution(x, 1), "001/100/010");
        due("2", Look.solution(x, 2), ".../.../...");
        CellPictures flag = Look.loaded(FLAG);
        flag.search(1, 0);
        due("with colours", Look.solution(flag, 0), "122/000");
        flag.search(0, 0);
        flag.level();
        flag.hint();
        flag.rest();
        flag.mark(0, 0, 2);
        due("it stays", Look.solution(flag, 0), "122/000");
        CellPictures full = Look.drawn(3, "............/".repeat(11) + "...........3");
        full.search(1, 0);
        due("the last cell", full.solution(0, 11, 11), 3);
    }

    @Sentence("NONE: there is none such,")
    private static void promise19_noneSuch() {
        CellPictures x = Look.loaded(TWO);
        due("ahead of any search", x.solution(0, 0, 0), NONE);
        x.search(2, 5);
        for (int k : new int[] {2, 3, -1, -2, LEAST, MOST}) {
            due("solution " + k, x.solution(k, 0, 0), NONE);
        }
        x.search(1, 5);
        due("the second of one", x.solution(1, 0, 0), NONE);
        due("the first of one", x.solution(0, 0, 0), 0);
        x.search(2, 0);
        due("the first of none", x.solution(0, 0, 0), NONE);
        CellPictures none = Look.loaded(NO_WAY);
        none.search(2, 5);
        due("the first of none", none.solution(0, 0, 0), NONE);
        due("without a puzzle", new CellPictures().solution(0, 0, 0), NONE);
        CellPictures since = busy();
        since.draw();
        due("with a puzzle that came since", since.solution(0, 0, 0), NONE);
    }

    @Sentence("no such cell;")
    private static void promise19_noSuchCell() {
        CellPictures x = busy();
        for (int[] cell : NO_CELLS) {
            due("solution at " + cell[0] + ", " + cell[1], x.solution(0, cell[0], cell[1]), NONE);
        }
    }

    @Sentence("also if GIVENS were told since.")
    private static void promise19_givensToldSince() {
        CellPictures x = Look.loaded(TWO);
        x.search(2, 5);
        x.give(0, 0, 0);
        due("told", Look.solution(x, 0) + Look.solution(x, 1), "../..../..");
        x.search(2, 5);
        due("searched again", Look.solution(x, 0), "01/10");
        x.give(0, 0, NONE);
        due("told to be none", Look.solution(x, 0), "../..");
        x.search(2, 5);
        x.give(0, 0, 2);
        x.give(2, 0, 0);
        due("refused", Look.solution(x, 0) + Look.solution(x, 1), "01/1010/01");
    }

    // ---- 20: level

    @Sentence("LEVEL.")
    private static void promise20_level() {
        due("0", Look.loaded(FLAG).level(), 0);
        due("1", Look.drawn(1, BY_TRYING).level(), 1);
        due("2", Look.drawn(1, BY_SEARCH).level(), 2);
        due("3", Look.loaded(TWO).level(), 3);
        due("3 by the 400th node", Look.drawn(1, BY_400_NODES).level(), 3);
        due("4", Look.loaded(NO_WAY).level(), 4);
        due("5 ahead of the 401st", Look.drawn(1, BY_401_NODES).level(), 5);
    }

    @Sentence("NONE: no PUZZLE.")
    private static void promise20_noPuzzle() {
        due("level", new CellPictures().level(), NONE);
    }

    @Sentence("(SETS, and what search() left, stay.)")
    private static void promise20_setsAndSolutionsStay() {
        CellPictures x = busy();
        x.level();
        due("all stays", Look.state(x), BUSY);
        CellPictures none = Look.loaded(TWO);
        due("level by a search", none.level(), 3);
        due("no sets", none.set(0, 0), NONE);
        due("no nodes", none.nodes(), NONE);
        due("no solution", none.solution(0, 0, 0), NONE);
        none.search(1, 5);
        none.level();
        due("nodes", none.nodes(), 1);
        due("one solution alone", Look.solution(none, 0) + " " + Look.solution(none, 1), "01/10 ../..");
    }

    // ---- 21: mark

    @Sentence("A cell is marked,")
    private static void promise21_aCellIsMarked() {
        CellPictures x = Look.loaded(FLAG);
        due("the first cell the highest value", x.mark(0, 0, 2), true);
        due("the last cell the least", x.mark(2, 1, 0), true);
        due("the marks", Look.marks(x), "2../..0");
        due("again another", x.mark(0, 0, 1), true);
        due("the marks", Look.marks(x), "1../..0");
        due("how many", x.about(6), 2);
        CellPictures y = busy();
        y.mark(1, 1, 1);
        due("sets, givens and solutions stay", Look.state(y), BUSY.replace("1../.2.", "1../.1."));
    }

    @Sentence("or (v NONE) not any more.")
    private static void promise21_notAnyMore() {
        CellPictures x = busy();
        due("take it", x.mark(1, 1, NONE), true);
        due("the marks", Look.marks(x), "1../...");
        due("how many", x.about(6), 1);
        due("take one that is none", x.mark(1, 1, NONE), true);
        due("how many", x.about(6), 1);
    }

    @Sentence("False: no PUZZLE,")
    private static void promise21_noPuzzle() {
        CellPictures x = new CellPictures();
        due("mark", x.mark(0, 0, 0), false);
        due("take", x.mark(0, 0, NONE), false);
        x.blank(1, 1, 1);
        due("nothing is marked", x.about(6), 0);
    }

    @Sentence("no such cell,")
    private static void promise21_noSuchCell() {
        CellPictures x = busy();
        for (int[] cell : NO_CELLS) {
            due("mark " + cell[0] + ", " + cell[1], x.mark(cell[0], cell[1], 1), false);
            due("take " + cell[0] + ", " + cell[1], x.mark(cell[0], cell[1], NONE), false);
        }
        due("all stays", Look.state(x), BUSY);
    }

    @Sentence("VALUE.")
    private static void promise21_noSuchValue() {
        CellPictures x = busy();
        for (int v : new int[] {3, 4, -2, 32, LEAST, MOST}) {
            due("mark " + v, x.mark(1, 1, v), false);
        }
        due("all stays", Look.state(x), BUSY);
        due("3 of three", Look.blank(1, 1, 3).mark(0, 0, 3), true);
        due("4 of three", Look.blank(1, 1, 3).mark(0, 0, 4), false);
        due("2 of one", Look.blank(1, 1, 1).mark(0, 0, 2), false);
    }

    // ---- 22: marked

    @Sentence("A cell's MARK.")
    private static void promise22_aCellsMark() {
        CellPictures x = Look.blank(12, 12, 3);
        x.mark(0, 0, 0);
        x.mark(11, 11, 3);
        due("a blank", x.marked(0, 0), 0);
        due("the highest", x.marked(11, 11), 3);
    }

    @Sentence("NONE: none,")
    private static void promise22_none() {
        CellPictures x = busy();
        due("a cell", x.marked(2, 0), NONE);
        x.give(2, 0, 2);
        due("a given cell", x.marked(2, 0), NONE);
        x.mark(1, 1, NONE);
        due("a cell that was marked", x.marked(1, 1), NONE);
    }

    @Sentence("no such cell,")
    private static void promise22_noSuchCell() {
        CellPictures x = Look.blank(3, 2, 1);
        Look.mark(x, "111/111");
        for (int[] cell : NO_CELLS) {
            due("marked " + cell[0] + ", " + cell[1], x.marked(cell[0], cell[1]), NONE);
        }
    }

    @Sentence("no PUZZLE.")
    private static void promise22_noPuzzle() {
        due("marked", new CellPictures().marked(0, 0), NONE);
    }

    // ---- 23: done

    @Sentence("Whether the MARKS (a cell without one counts as 0) are a SOLUTION (1, 0).")
    private static void promise23_whetherTheMarksAreASolution() {
        CellPictures x = Look.loaded(FLAG);
        due("no marks", x.done(), 0);
        Look.mark(x, "122");
        due("without blank marks", x.done(), 1);
        Look.mark(x, "122/000");
        due("with blank marks", x.done(), 1);
        for (String other : new String[] {"022/000", "112/000", "122/001", "120/000", "222/000", "221/000"}) {
            Look.mark(x, other);
            due("marks " + other, x.done(), 0);
        }
        Look.mark(x, "122/000");
        due("again", x.done(), 1);
        x.give(2, 1, 0);
        due("like a given", x.done(), 1);
        x.mark(2, 1, NONE);
        due("without a mark where a blank is given", x.done(), 1);
        x.give(2, 1, 1);
        due("unlike a given", x.done(), 0);
        CellPictures blank = Look.blank(12, 12, 3);
        due("no marks of no runs", blank.done(), 1);
        blank.mark(11, 11, 3);
        due("one of the last cell", blank.done(), 0);
        CellPictures two = Look.loaded(TWO);
        Look.mark(two, "1./1.");
        due("the rows alone", two.done(), 0);
        Look.mark(two, "11/00");
        due("the columns alone", two.done(), 0);
        Look.mark(two, "10/01");
        due("both", two.done(), 1);
    }

    @Sentence("NONE: no PUZZLE.")
    private static void promise23_noPuzzle() {
        due("done", new CellPictures().done(), NONE);
    }

    // ---- 24: wrong

    @Sentence("How many MARKS are unlike the first SOLUTION of that search().")
    private static void promise24_howManyAreUnlike() {
        CellPictures x = Look.loaded(TWO);
        x.search(2, 5);
        due("no marks", x.wrong(), 0);
        Look.mark(x, "01/10");
        due("like the first", x.wrong(), 0);
        Look.mark(x, "10/01");
        due("like the second", x.wrong(), 4);
        x.mark(0, 0, NONE);
        due("no mark is not unlike", x.wrong(), 3);
        x.mark(0, 1, NONE);
        x.mark(1, 0, NONE);
        due("a mark where it is blank", x.wrong(), 1);
        CellPictures full = Look.loaded("12 12 3;" + ";".repeat(24));
        full.search(1, 0);
        for (int i = 0; i < 144; i++) {
            full.mark(i % 12, i / 12, 3);
        }
        due("all", full.wrong(), 144);
    }

    @Sentence("NONE: there is none (as for solution()).")
    private static void promise24_thereIsNone() {
        due("without a puzzle", new CellPictures().wrong(), NONE);
        CellPictures x = Look.loaded(TWO);
        x.mark(0, 0, 1);
        due("ahead of any search", x.wrong(), NONE);
        x.search(2, 0);
        due("none was found", x.wrong(), NONE);
        x.search(2, 1);
        due("one was found ahead of its end", x.wrong(), 1);
        x.search(2, 5);
        x.give(0, 0, 5);
        due("a given was refused since", x.wrong(), 1);
        x.give(1, 1, NONE);
        due("a given was told since", x.wrong(), NONE);
        x.search(2, 5);
        due("searched again", x.wrong(), 1);
        x.draw();
        due("with a puzzle that came since", x.wrong(), NONE);
    }

    // ---- 25: hint

    @Sentence("With SETS of GIVENS and (else) MARKS their VALUE alone, of others 0 to C,")
    private static void promise25_setsOfGivensAndMarks() {
        CellPictures x = Look.loaded(TWO);
        due("nothing is told", x.hint(), NONE);
        x.mark(0, 0, 1);
        due("by a mark", x.hint(), 1);
        x.give(0, 0, 0);
        due("by a given ahead of the mark", x.hint(), 1001);
        x.mark(0, 0, NONE);
        due("by a given", x.hint(), 1001);
        x.give(0, 0, NONE);
        due("by neither", x.hint(), NONE);
        x.mark(0, 0, 0);
        due("by a blank mark", x.hint(), 1001);
        // the object's own sets are another thing
        CellPictures y = Look.loaded(TWO);
        y.give(0, 0, 1);
        y.rest();
        y.give(0, 0, NONE);
        due("not by the sets", y.hint(), NONE);
        due("the sets stay", Look.sets(y), "21/12");
    }

    @Sentence("for each LINE by itself, by numbers:")
    private static void promise25_eachLineByItself() {
        CellPictures x = Look.loaded(NO_WAY);
        Look.mark(x, "101/.1.");
        // row 1 alone tells nothing, though columns 0 and 1 do: column 0 is the first of them
        due("column 0", x.hint(), 21012);
        x.mark(0, 1, 1);
        due("row 1 ahead of the columns", x.hint(), 10014);
        x.mark(2, 1, 0);
        due("column 1", x.hint(), -5);
        CellPictures none = Look.loaded(SIX);
        Look.mark(none, "1../...");
        due("row 0 ahead of column 0", none.hint(), 1);
    }

    @Sentence("if the LINE RULE FAILS: -2 less the LINE;")
    private static void promise25_aLineFails() {
        CellPictures x = Look.loaded(TWO);
        Look.mark(x, "11");
        due("line 0", x.hint(), -2);
        Look.mark(x, "10/11");
        due("line 1", x.hint(), -3);
        Look.mark(x, "10/10");
        due("line 2", x.hint(), -4);
        x.mark(0, 0, 0);
        x.mark(1, 0, 1);
        Look.mark(x, "01/01");
        due("line 2 ahead of line 3", x.hint(), -4);
        CellPictures last = Look.loaded("12 12 3;" + ";".repeat(10) + "1a1c;1a1c;" + ";".repeat(8) + "1;1;1c;1c;");
        Look.mark(last, "000000000000/".repeat(10) + "00000000...0/00000000...0");
        due("the last line", last.hint(), -25);
    }

    @Sentence("else, if it leaves a cell neither GIVEN nor marked with one VALUE:")
    private static void promise25_aCellNeitherGivenNorMarked() {
        CellPictures x = Look.loaded(FLAG);
        due("the first cell", x.hint(), 1000);
        x.mark(0, 0, 1);
        due("behind a mark", x.hint(), 2001);
        x.give(1, 0, 2);
        due("behind a given", x.hint(), 2002);
        x.give(2, 0, 2);
        due("another row", x.hint(), 10012);
        Look.mark(x, "1../000");
        due("all are given or marked", x.hint(), NONE);
        x.mark(1, 1, NONE);
        due("the last one", x.hint(), 10013);
    }

    @Sentence("10000 times the LINE, 1000 times that VALUE, and the number (12 y + x) of the first such cell of it.")
    private static void promise25_theNumberOfAHint() {
        due("the least", Look.blank(1, 1, 1).hint(), 0);
        due("1000 times the value", Look.loaded("1 1 3;1c;1c;").hint(), 3000);
        CellPictures last = Look.loaded("12 12 3;" + ";".repeat(10) + "1a;1a1c;" + ";".repeat(9) + "1;1;1c;");
        Look.mark(last, "000000000000/".repeat(10) + "000000000..0/000000000...");
        due("the last cell of the last line", last.hint(), 233143);
        CellPictures row = Look.loaded("12 12 1;" + ";".repeat(24));
        Look.mark(row, "000000000000/".repeat(11));
        due("the first cell of the last row", row.hint(), 110132);
        CellPictures column = Look.loaded("3 2 1;1;1;1;1;;");
        column.mark(2, 0, 0);
        due("the first cell of a column", column.hint(), 40014);
    }

    @Sentence("NONE: there is none,")
    private static void promise25_thereIsNone() {
        due("nothing is told", Look.loaded(TWO).hint(), NONE);
        CellPictures x = Look.loaded(TWO);
        Look.mark(x, "01/10");
        due("all are marked", x.hint(), NONE);
        CellPictures y = Look.loaded(TWO);
        y.give(0, 0, 0);
        y.give(1, 0, 1);
        y.give(0, 1, 1);
        y.give(1, 1, 0);
        due("all are given", y.hint(), NONE);
    }

    @Sentence("no PUZZLE.")
    private static void promise25_noPuzzle() {
        due("hint", new CellPictures().hint(), NONE);
    }

    // ---- 26: draw

    @Sentence("The RUNS become those that the LINES of the MARKS (a cell without one counts as 0) READ AS;")
    private static void promise26_theRunsOfTheMarks() {
        CellPictures x = Look.blank(4, 3, 3);
        Look.mark(x, "1122/30.3/.33.");
        x.draw();
        due("the puzzle", Look.puzzle(x), "4 3 3;2a2b;1c1c;2c;1a1c;1a1c;1b1c;1b1c;");
        x.mark(0, 0, NONE);
        x.mark(1, 0, 0);
        x.draw();
        due("the puzzle with two marks less", Look.puzzle(x), "4 3 3;2b;1c1c;2c;1c;1c;1b1c;1b1c;");
        x.draw();
        due("the same again", Look.puzzle(x), "4 3 3;2b;1c1c;2c;1c;1c;1b1c;1b1c;");
        CellPictures none = Look.loaded(FLAG);
        none.draw();
        due("no marks", Look.puzzle(none), "3 2 2;;;;;;");
    }

    @Sentence("GIVENS go:")
    private static void promise26_givensGo() {
        CellPictures x = busy();
        x.draw();
        due("givens", x.about(5), 0);
        due("given", Look.givens(x), ".../...");
        due("the marks are a solution", x.done(), 1);
    }

    @Sentence("how many RUNS;")
    private static void promise26_howManyRuns() {
        due("none", Look.blank(12, 12, 3).draw(), 0);
        CellPictures one = Look.blank(1, 1, 3);
        one.mark(0, 0, 3);
        due("of one cell", one.draw(), 2);
        CellPictures full = Look.blank(12, 12, 2);
        Look.mark(full, "121212121212/212121212121/".repeat(6));
        due("the most", full.draw(), 288);
        due("as about tells", full.about(4), 288);
        due("the last", full.run(23, 11, 1), 1);
    }

    @Sentence("NONE: no PUZZLE.")
    private static void promise26_noPuzzle() {
        CellPictures x = new CellPictures();
        due("draw", x.draw(), NONE);
        due("there is none still", x.about(0), NONE);
    }

    @Sentence("(MARKS stay.")
    private static void promise26_marksStay() {
        CellPictures x = busy();
        x.mark(2, 1, 0);
        x.draw();
        due("marks", Look.marks(x), "1../.20");
        due("how many", x.about(6), 3);
    }

    @Sentence("It is a new PUZZLE as to SETS and SOLUTIONS.)")
    private static void promise26_aNewPuzzle() {
        CellPictures x = busy();
        due("draw", x.draw(), 4);
        due("all of it", Look.state(x), "3 2 2;1a;1b;1a;1b;; runs 4 given 0 .../... marked 2 1../.2. sets 0 .../..."
                + " nodes -1 found .../... .../... wrong -1 done 1");
    }

    // ---- 27: mend

    @Sentence("If the MARKS are a SOLUTION: as long as a SEARCH for two SOLUTIONS with 400 NODES at most finds two,")
    private static void promise27_asLongAsTwoAreFound() {
        CellPictures x = Look.drawn(1, "1../.1./..1");
        due("mend", x.mend(), 4);
        due("then there is one", x.search(2, 400), 1);
        due("it", Look.solution(x, 0), "100/010/001");
        CellPictures one = Look.drawn(2, "122/...");
        due("there is one at first", one.mend(), 0);
        due("nothing is given", one.about(5), 0);
        CellPictures at400 = Look.drawn(1, BY_400_NODES);
        due("two by the 400th node", at400.search(2, 400), 2);
        due("mend of it is spent at once", at400.mend() == -2 && at400.about(5) == 0, false);
        CellPictures at401 = Look.drawn(1, BY_401_NODES);
        due("two by the 401st node", at401.search(2, 401), 2);
        due("mend of it", at401.mend(), -2);
        due("nothing is given", at401.about(5), 0);
    }

    @Sentence("the first cell in which these are unlike is GIVEN its MARK (0 without):")
    private static void promise27_theFirstUnlikeCellIsGiven() {
        CellPictures x = Look.drawn(1, "1./.1");
        due("mend", x.mend(), 1);
        due("given a mark", Look.givens(x), "1./..");
        CellPictures y = Look.drawn(1, ".1/1.");
        due("mend", y.mend(), 1);
        due("given 0 without", Look.givens(y), "0./..");
        due("it is not marked", y.marked(0, 0), NONE);
        CellPictures z = Look.drawn(1, ".1/1.");
        z.mark(0, 0, 0);
        due("mend", z.mend(), 1);
        due("given a blank mark", Look.givens(z), "0./..");
        // 001 010 100 and 001 100 010, then 010 001 100, then 100 001 010, then 100 010 001
        CellPictures six = Look.drawn(1, "1../.1./..1");
        six.mend();
        due("one by one", Look.givens(six), "10./01./...");
        CellPictures order = Look.drawn(1, ".1./1../..1");
        order.give(0, 0, 0);
        order.give(2, 1, 0);
        order.give(1, 2, 0);
        order.mend();
        due("by y, then x", Look.givens(order), "01./..0/.0.");
    }

    @Sentence("how many were GIVEN.")
    private static void promise27_howManyWereGiven() {
        CellPictures x = Look.drawn(1, "1../.1./..1");
        due("four", x.mend(), 4);
        due("none then", x.mend(), 0);
        due("givens", x.about(5), 4);
        x.give(0, 0, NONE);
        x.give(1, 1, NONE);
        due("only those of this call", x.mend(), x.about(5) - 2);
        due("a blank puzzle", Look.blank(12, 12, 3).mend(), 0);
    }

    @Sentence("-2: one was SPENT (what was GIVEN stays).")
    private static void promise27_oneWasSpent() {
        CellPictures at0 = Look.drawn(1, ABOVE_1000_NODES);
        due("the first one", at0.mend(), -2);
        due("nothing was given", at0.about(5), 0);
        CellPictures later = Look.drawn(1, SPENT_LATER);
        due("two at first", later.search(2, 400), 2);
        due("a later one", later.mend(), -2);
        due("what was given stays", later.about(5), 6);
        due("they are as the marks", later.done(), 1);
        due("it is spent with those", later.search(2, 400), -2);
        at0.blank(2, 2, 1);
        Look.mark(at0, "1./.1");
        at0.draw();
        due("the next is not", at0.mend(), 1);
    }

    @Sentence("NONE: no PUZZLE,")
    private static void promise27_noPuzzle() {
        CellPictures x = new CellPictures();
        due("mend", x.mend(), NONE);
        due("there is none still", x.about(0), NONE);
    }

    @Sentence("the MARKS are no SOLUTION.")
    private static void promise27_theMarksAreNoSolution() {
        CellPictures x = busy();
        due("marks that are none", x.mend(), NONE);
        due("all stays", Look.state(x), BUSY);
        CellPictures two = Look.loaded(TWO);
        due("no marks", two.mend(), NONE);
        Look.mark(two, "1./.1");
        two.give(1, 0, 1);
        due("marks unlike a given", two.mend(), NONE);
        due("givens stay", Look.givens(two), ".1/..");
        two.give(1, 0, NONE);
        due("marks that are one", two.mend(), 1);
    }

    @Sentence("(SETS stay; for solution() it is as if GIVENS were told, if some were.)")
    private static void promise27_setsStayAndSolutionsGo() {
        CellPictures x = Look.loaded(TWO);
        Look.mark(x, "1./.1");
        x.search(2, 5);
        x.fresh();
        due("mend", x.mend(), 1);
        due("sets", Look.sets(x), "33/33");
        due("nodes", x.nodes(), 2);
        due("solutions", Look.solution(x, 0) + Look.solution(x, 1), "../..../..");
        due("wrong", x.wrong(), NONE);
        x.search(2, 5);
        due("mend of what has one", x.mend(), 0);
        due("its solution stays, if none was given", Look.solution(x, 0), "10/01");
        due("nodes stay", x.nodes(), 0);
        CellPictures none = Look.loaded(TWO);
        Look.mark(none, "1./.1");
        none.mend();
        due("it makes no sets", none.set(0, 0), NONE);
        CellPictures spent = Look.drawn(1, SPENT_LATER);
        spent.search(2, 400);
        spent.mend();
        due("solutions, if one was spent behind some", spent.solution(0, 0, 0), NONE);
        CellPictures at0 = Look.drawn(1, BY_401_NODES);
        at0.search(1, 400);
        int ahead = at0.solution(0, 0, 0);
        due("one was found", ahead != NONE, true);
        due("spent at once", at0.mend(), -2);
        due("the solution stays", at0.solution(0, 0, 0), ahead);
    }
}
