/**
 * The document's terms, and what it says beside the promises, sentence by sentence: a test for each,
 * above all at its boundaries. A test's name begins with the term.
 */
public final class SentencesOfTermsTest extends SentenceTest {
    public static void main(String[] args) throws Exception {
        Sentences.runAll(SentencesOfTermsTest.class, "term", "others");
    }

    private static void fault(String text, int kind, int place) {
        CellPictures x = new CellPictures();
        Look.feed(x, text);
        due("load of '" + text + "'", x.load(), -1 - place);
        due("fault of '" + text + "'", x.fault(), kind);
        due("the puzzle behind '" + text + "'", x.about(0), NONE);
    }

    /** A text without a FAULT, and how its PUZZLE is written with all letters and no spaces. */
    private static void good(String text, String puzzle) {
        CellPictures x = new CellPictures();
        Look.feed(x, text);
        due("load of '" + text + "' is refused", x.load() < 0, false);
        due("fault of '" + text + "'", x.fault(), 0);
        due("the puzzle of '" + text + "'", Look.puzzle(x), puzzle);
    }

    // ---- others

    @Sentence("An object is used for at most 512 calls after it has been made; what later calls answer is free.")
    private static void others_the512thCallIsAnsweredStill() {
        CellPictures x = Look.blank(12, 12, 3);
        for (int i = 2; i <= 510; i++) {
            due("call " + i, x.mark(i % 12, i / 12 % 12, i % 4), true);
        }
        due("call 511", x.draw() > 0, true);
        due("call 512", x.done(), 1);
    }

    @Sentence("All memory is the class's own.")
    private static void others_objectsShareNothing() {
        CellPictures a = Look.loaded(TWO);
        a.fresh();
        a.search(2, 9);
        a.mark(0, 0, 1);
        a.give(1, 1, 1);
        String ahead = Look.state(a);
        CellPictures b = new CellPictures();
        due("about a new object beside it", b.about(0), NONE);
        due("the tape of a new object", b.end(1), NONE);
        Look.feed(a, "1");
        b.blank(2, 2, 3);
        b.mark(0, 0, 3);
        b.draw();
        b.give(0, 0, 2);
        b.rest();
        b.search(2, 9);
        b.level();
        due("the first object behind it", Look.state(a), ahead);
        due("its tape", a.end(1), 1);
    }

    @Sentence("The constants: `NONE = -1`: There is none.")
    private static void others_noneIsMinusOne() {
        due("NONE", CellPictures.NONE, -1);
    }

    // ---- term 1

    @Sentence("A PUZZLE has a WIDTH W and a HEIGHT H (1 to 12 each),")
    private static void term1_widthAndHeightAreOneToTwelve() {
        for (int side = -1; side <= 14; side++) {
            boolean is = side >= 1 && side <= 12;
            due("a width of " + side, new CellPictures().blank(side, 1, 1), is);
            due("a height of " + side, new CellPictures().blank(1, side, 1), is);
        }
        good("1 1 1;;;", "1 1 1;;;");
        good("12 1 1;" + ";".repeat(13), "12 1 1;" + ";".repeat(13));
        good("1 12 1;" + ";".repeat(13), "1 12 1;" + ";".repeat(13));
        good("12 12 1;" + ";".repeat(24), "12 12 1;" + ";".repeat(24));
    }

    @Sentence("C colours (1 to 3),")
    private static void term1_coloursAreOneToThree() {
        for (int c = -1; c <= 5; c++) {
            due(c + " colours", new CellPictures().blank(1, 1, c), c >= 1 && c <= 3);
        }
        good("1 1 1;;;", "1 1 1;;;");
        good("1 1 3;;;", "1 1 3;;;");
    }

    @Sentence("and for each LINE a list of RUNS (0 to 12), each of a length and a colour.")
    private static void term1_aLineHasNoRunsToTwelve() {
        String twelve = "1a1b".repeat(6);
        good("12 1 2;" + twelve + ";" + "1a;1b;".repeat(6), "12 1 2;" + twelve + ";" + "1a;1b;".repeat(6));
        good("1 12 2;" + "1a;1b;".repeat(6) + twelve + ";", "1 12 2;" + "1a;1b;".repeat(6) + twelve + ";");
        CellPictures x = Look.loaded("12 1 2;" + twelve + ";" + "1a;1b;".repeat(6));
        due("the most runs of a line", x.run(0, NONE, 0), 12);
        due("the length of the 12th", x.run(0, 11, 0), 1);
        due("the colour of the 12th", x.run(0, 11, 1), 2);
        due("the 13th", x.run(0, 12, 0), NONE);
        x.fresh();
        due("ways of twelve runs", x.ways(0), 1);
        due("rule of twelve runs", x.rule(0), 12);
        due("sets of twelve runs", Look.sets(x), "242424242424");
        CellPictures most = Look.drawn(2, "121212121212/212121212121/".repeat(6));
        due("rest of 24 lines of twelve runs", most.rest(), 48);
        due("its cells of one value", most.about(7), 144);
        CellPictures none = Look.blank(1, 1, 1);
        due("no runs", none.run(0, NONE, 0), 0);
        due("the first of none", none.run(0, 0, 0), NONE);
    }

    @Sentence("LINES are numbered: rows 0 to H - 1 from above, then columns, H to H + W - 1, from the left.")
    private static void term1_linesAreRowsThenColumns() {
        CellPictures x = Look.loaded("3 2 2;3a;1b;1a1b;1a;1a;");
        due("the first row", Look.runs(x, 0), "3a");
        due("the last row", Look.runs(x, 1), "1b");
        due("the first column", Look.runs(x, 2), "1a1b");
        due("the last column", Look.runs(x, 4), "1a");
        due("ahead of the first", x.run(-1, NONE, 0), NONE);
        due("behind the last", x.run(5, NONE, 0), NONE);
        CellPictures wide = Look.drawn(1, "............/".repeat(11) + "...........1");
        due("row 10 of twelve", Look.runs(wide, 10), "");
        due("row 11 of twelve", Look.runs(wide, 11), "1a");
        due("column 0 of twelve", Look.runs(wide, 12), "");
        due("column 11 of twelve", Look.runs(wide, 23), "1a");
        due("no line 24", wide.run(24, NONE, 0), NONE);
    }

    @Sentence("CELLS are told by x (0 .. W - 1) and y (0 .. H - 1),")
    private static void term1_cellsAreToldByXAndY() {
        CellPictures x = Look.blank(3, 2, 1);
        for (int i = -2; i <= 13; i++) {
            due("x " + i, x.mark(i, 0, 1), i >= 0 && i < 3);
            due("y " + i, x.mark(0, i, 1), i >= 0 && i < 2);
        }
        due("the marks", Look.marks(x), "111/1..");
        CellPictures full = Look.blank(12, 12, 1);
        due("the last cell", full.mark(11, 11, 1), true);
        due("x 12", full.mark(12, 11, 1), false);
        due("y 12", full.mark(11, 12, 1), false);
        due("marks", full.about(6), 1);
    }

    @Sentence("in order by y, then x.")
    private static void term1_cellsInOrderByYThenX() {
        // With these blanks the two solutions are unlike in 1 and 2 of row 0, 0 and 1 of row 1, 0 and 2 of row 2.
        CellPictures x = Look.drawn(1, ".1./1../..1");
        x.give(0, 0, 0);
        x.give(2, 1, 0);
        x.give(1, 2, 0);
        due("solutions", x.search(3, 100), 2);
        due("mend", x.mend(), 1);
        due("the first unlike cell is given", Look.givens(x), "01./..0/.0.");
    }

    @Sentence("VALUES: 0 blank, 1 to C the colours.")
    private static void term1_valuesAreZeroToC() {
        for (int c = 1; c <= 3; c++) {
            CellPictures x = Look.blank(1, 1, c);
            for (int v = -4; v <= 5; v++) {
                boolean is = v >= NONE && v <= c;
                due("mark " + v + " of " + c, x.mark(0, 0, v), is);
                due("give " + v + " of " + c, x.give(0, 0, v), is);
            }
            due("the highest is marked", x.marked(0, 0), c);
            due("the highest is given", x.given(0, 0), c);
        }
    }

    @Sentence("A row of VALUES READS AS the lengths and VALUES of its stretches, in order: "
            + "a stretch is a greatest row of neighbours of one VALUE other than 0.")
    private static void term1_aRowReadsAsItsStretches() {
        String[][] rows = {{"0", ""}, {"1", "1a"}, {"............", ""}, {"111111111111", "12a"},
            {"1..........1", "1a1a"}, {"121212121212", "1a1b1a1b1a1b1a1b1a1b1a1b"},
            {"1.1.1.1.1.1.", "1a1a1a1a1a1a"}, {"33", "2c"}, {"3303", "2c1c"},
            {"1123", "2a1b1c"}, {"0211", "1b2a"}, {"10022", "1a2b"}, {"..1", "1a"}, {"2..", "1b"}, {"010", "1a"}};
        for (String[] row : rows) {
            CellPictures x = Look.drawn(3, row[0]);
            due("the row " + row[0], Look.runs(x, 0), row[1]);
            CellPictures column = Look.drawn(3, String.join("/", row[0].split("")));
            due("the column " + row[0], Look.runs(column, row[0].length()), row[1]);
        }
    }

    @Sentence("GIVENS are cells whose VALUE is told.")
    private static void term1_aGivenMayBeBlank() {
        CellPictures x = Look.loaded(TWO);
        due("give a blank", x.give(0, 0, 0), true);
        due("it is a given", x.given(0, 0), 0);
        due("givens", x.about(5), 1);
        due("its first set", x.fresh() ? x.set(0, 0) : NONE, 1);
    }

    @Sentence("A SOLUTION: a VALUE for each cell, the GIVENS' as told, so that each LINE READS AS its RUNS.")
    private static void term1_aSolutionHasTheGivensAndTheRuns() {
        CellPictures x = Look.loaded(TWO);
        due("without givens", x.search(50, 100), 2);
        x.give(1, 1, 0);
        due("with a blank given", x.search(50, 100), 1);
        due("the solution", Look.solution(x, 0), "01/10");
        x.give(1, 1, 1);
        due("with a given", x.search(50, 100), 1);
        due("the solution", Look.solution(x, 0), "10/01");
        Look.mark(x, "01/10");
        due("marks unlike the given", x.done(), 0);
        Look.mark(x, "10/01");
        due("marks like it", x.done(), 1);
        Look.mark(x, "10/11");
        due("a row and a column with more", x.done(), 0);
        x.give(0, 1, 1);
        due("with givens that no solution has", x.search(50, 100), 0);
        CellPictures one = Look.loaded("1 1 1;;;");
        due("one cell", one.search(50, 100), 1);
        due("its solution", Look.solution(one, 0), "0");
    }

    @Sentence("the GIVENS' as told, so that each LINE READS AS its RUNS.")
    private static void term1_eachGivenAndEachLineCounts() {
        // all lines but one are as they should be
        String[][] unlikeInOne = {{"4 2 1;2;1 1;1;1;1;1;", ".1.1/1.1.", ".11./1..1"},
            {"4 2 1;1 1;2;1;1;1;1;", ".1.1/1.1.", "1..1/.11."},
            {"2 4 1;1;1;1;1;2;1 1;", ".1/1./.1/1.", ".1/1./1./.1"},
            {"2 4 1;1;1;1;1;1 1;2;", ".1/1./.1/1.", "1./.1/.1/1."}};
        for (String[] one : unlikeInOne) {
            CellPictures x = Look.loaded(one[0]);
            Look.mark(x, one[1]);
            due("marks " + one[1] + " in " + one[0], x.done(), 0);
            CellPictures y = Look.loaded(one[0]);
            Look.mark(y, one[2]);
            due("marks " + one[2] + " in " + one[0], y.done(), 1);
        }
        for (int i = 0; i < 6; i++) {
            CellPictures x = Look.drawn(2, "122/...");
            due("the marks", x.done(), 1);
            for (int v = 0; v <= 2; v++) {
                x.give(i % 3, i / 3, v);
                due("the marks with cell " + i + " given " + v, x.done(), v == "122000".charAt(i) - '0' ? 1 : 0);
            }
        }
    }

    // ---- term 2: tokens and puzzles

    @Sentence("TEXTS. The TAPE has bytes, at most 900.")
    private static void term2_aTextOf900Bytes() {
        good("1 1 1;1;" + " ".repeat(890) + "1;", "1 1 1;1a;1a;");
        good(" ".repeat(890) + "1 1 1;1;1;", "1 1 1;1a;1a;");
        fault("1 1 1;1;1;" + " ".repeat(889) + "x", 1, 899);
        fault("1 1 1;1;;" + " ".repeat(891), 7, 900);
        CellPictures x = new CellPictures();
        for (int i = 1; i <= 45; i++) {
            x.feed(0, 0, 0, 0, 0);
        }
        due("900 bytes", x.end(900), 900);
        due("one more", x.feed(0, 0, 0, 0, 0), NONE);
        due("901 bytes", x.end(901), NONE);
    }

    @Sentence("TOKENS: NUMBERS (as many digits as come), a b c, and ; .")
    private static void term2_tokens() {
        good("12 1 1;12;" + "1;".repeat(12), "12 1 1;12a;" + "1a;".repeat(12));
        good("12 1 1;11;" + "1;".repeat(11) + ";", "12 1 1;11a;" + "1a;".repeat(11) + ";");
        good("03 01 02;02b01;1b;1b;1;", "3 1 2;2b1a;1b;1b;1a;");
        good("3 1 3;1a1b1c;1a;1b;1c;", "3 1 3;1a1b1c;1a;1b;1c;");
        fault("1 1 1;111;111;", 1, 6);
    }

    @Sentence("Between them bytes 32 and 10 as one likes.")
    private static void term2_spacesBetweenTokens() {
        good("3 1 2;1a1b;1;1b;;", "3 1 2;1a1b;1a;1b;;");
        good("\n 3\n1 \n\n2 ;  1 a\n1\nb ; 1;1b\n;\n;\n  ", "3 1 2;1a1b;1a;1b;;");
        good("12 1 1;1 2;1;1;1;" + ";".repeat(9), "12 1 1;1a2a;1a;1a;1a;" + ";".repeat(9));
        good("12 1 1;1\n1;1;1;" + ";".repeat(10), "12 1 1;1a1a;1a;1a;" + ";".repeat(10));
        for (char other : new char[] {0, 9, 11, 12, 13, 31, 33, 127, 128 + 32, 128 + 10}) {
            fault("1 1 1;1;" + other + "1;", 1, 8);
        }
    }

    @Sentence("A PUZZLE: three NUMBERS (W, H, C) ; then the RUNS of each LINE, by their numbers, "
            + "each LINE with a ; behind.")
    private static void term2_aPuzzleIsItsSizeAndItsLines() {
        good("3 2 2;3;1b;1a1b;1;1;", "3 2 2;3a;1b;1a1b;1a;1a;");
        good("2 3 1;1;1;2;3;1;", "2 3 1;1a;1a;2a;3a;1a;");
        fault("3 2 2;3;1b;1a1b;1;1", 2, 19);
        fault("3 2 2;3;1b;1a1b;1;", 2, 18);
        fault("3 2 2;3;1b;1a1b;1;1;;", 2, 20);
        fault("3 2 2 3;1b;1a1b;1;1;", 2, 6);
        fault("3 2;3;1b;1a1b;1;1;", 2, 3);
    }

    @Sentence("A RUN: a NUMBER, its length, and perhaps a letter, its colour (a 1, b 2, c 3; a without one).")
    private static void term2_aRunIsALengthAndPerhapsAColour() {
        CellPictures x = Look.loaded("7 1 3;2c1 1a1b;1c;1c;1;1;1b;;;");
        int[][] dueRuns = {{2, 3}, {1, 1}, {1, 1}, {1, 2}};
        due("runs", x.run(0, NONE, 0), 4);
        for (int k = 0; k < 4; k++) {
            due("length of run " + k, x.run(0, k, 0), dueRuns[k][0]);
            due("colour of run " + k, x.run(0, k, 1), dueRuns[k][1]);
        }
        fault("2 1 1;a;;;", 2, 6);
        fault("2 1 1;1aa;;;", 2, 8);
    }

    // ---- term 2: faults

    @Sentence("FAULTS, a kind and a place.")
    private static void term2_aFaultHasAKindAndAPlace() {
        fault("1 1 1;1;1;x", 1, 10);
        fault("1 1 1;1;1;1", 2, 10);
        fault("1 1 4;1;1;", 3, 4);
        fault("1 1 1;0;1;", 4, 6);
        fault("1 1 1;" + "1 ".repeat(13), 5, 30);
        fault("1 1 1;2;1;", 6, 7);
        fault("1 1 1;1;;", 7, 9);
    }

    @Sentence("First all is cut:")
    private static void term2_theCutComesAheadOfTheReading() {
        fault("99 99 9;;;;aaa 0 x", 1, 17);
        fault(";;;;123", 1, 4);
        fault("1 1 1;1;; 999", 1, 10);
        fault("1 1 1;0;" + " ".repeat(891) + "d", 1, 899);
    }

    @Sentence("1 a byte that begins no TOKEN,")
    private static void term2_aByteThatBeginsNoToken() {
        for (int b = 0; b < 256; b++) {
            boolean begins = b >= '0' && b <= '9' || b >= 'a' && b <= 'c' || b == ';';
            boolean between = b == 32 || b == 10;
            CellPictures x = new CellPictures();
            Look.feed(x, "1 1 1;1;1; " + (char) b);
            due("load with byte " + b, x.load(), begins || !between ? -12 : 2);
            due("fault with byte " + b, x.fault(), begins ? 2 : between ? 0 : 1);
        }
    }

    @Sentence("a NUMBER of more than two digits:")
    private static void term2_aNumberOfMoreThanTwoDigits() {
        fault("001 1 1;", 1, 0);
        fault("1 100 1;", 1, 2);
        fault("1 1 1;000;;", 1, 6);
        fault("1 1 1;12345678901234567890;;", 1, 6);
        fault("1".repeat(900), 1, 0);
        fault("1 1 1;1;1; 001", 1, 11);
        fault("1 1 1;99;99;", 6, 8);
        good("01 01 01;01;01;", "1 1 1;1a;1a;");
    }

    @Sentence("the first one, at its first byte.")
    private static void term2_theFirstOfTheCutAtItsFirstByte() {
        fault("0 : 123", 1, 2);
        fault("0 123 :", 1, 2);
        fault("1234x", 1, 0);
        fault("12x345", 1, 2);
        fault("12 345 6789", 1, 3);
        fault("xy", 1, 0);
        fault("1 1 1;1;1;\n 123", 1, 12);
    }

    @Sentence("Then it is read from the left, the first that is met;")
    private static void term2_theFirstThatIsMet() {
        fault("13 0 9;", 3, 0);
        fault("1 0 a", 3, 2);
        fault("1 a 9;", 2, 2);
        fault("1 1 1;0;2;", 4, 6);
        fault("1 1 1;2;0;", 6, 7);
        fault("1 1 1;2b;", 4, 7);
        fault("1 1 1;2 b;", 4, 8);
        fault("1 1 1;" + "9 ".repeat(12) + "1 b;", 5, 30);
        fault("1 1 1;" + "9 ".repeat(11) + "1b 1;", 4, 29);
    }

    @Sentence("of one TOKEN the least kind:")
    private static void term2_ofOneTokenTheLeastKind() {
        fault("1 1 1;1;1;0", 2, 10);
        fault("1 1 1 13;", 2, 6);
        fault("1 1 1;c;", 2, 6);
        fault("1 1 1;1ac;", 2, 8);
        fault("1 1 1;" + "1 ".repeat(12) + "0;", 4, 30);
        fault("1 1 1;" + "1 ".repeat(12) + "00 b;", 4, 30);
        fault("1 1 1;1; ;;", 2, 10);
    }

    @Sentence("2 a TOKEN that can't stand there")
    private static void term2_aTokenThatCantStandThere() {
        String[] heads = {"", "1 ", "1 1 "};
        for (String head : heads) {
            fault(head + ";", 2, head.length());
            fault(head + "a", 2, head.length());
        }
        fault("1 1 1 1", 2, 6);
        fault("1 1 1a", 2, 5);
        fault("1 1 1;b", 2, 6);
        fault("1 1 1;1ab", 2, 8);
        fault("1 1 1;1;a", 2, 8);
        for (String behind : new String[] {"1", "a", ";", "00", "c 1"}) {
            fault("1 1 1;1;1;" + behind, 2, 10);
        }
    }

    @Sentence("(at the end: the text's length).")
    private static void term2_theEndThatCantStandThere() {
        String whole = "2 2 2;1a1b;2 b;1a1b;2b;";
        for (int n = 0; n < whole.length(); n++) {
            fault(whole.substring(0, n), 2, n);
        }
        fault("1 1 \n", 2, 5);
        fault("1 1 1;1;1 \n ", 2, 12);
        fault(" ".repeat(900), 2, 900);
    }

    @Sentence("3 W, H or C that is not as told, at it.")
    private static void term2_aSizeThatIsNotAsTold() {
        for (String side : new String[] {"0", "00", "13", "99"}) {
            fault(side + " 1 1;;;", 3, 0);
            fault(" \n" + side + " 1 1;;;", 3, 2);
            fault("12 " + side + " 1;;;", 3, 3);
            fault("12 12 " + side + ";;;", 3, 6);
        }
        fault("1 1 4;;;", 3, 4);
        good("1 1 03;;;", "1 1 3;;;");
        good("12 12 01;" + ";".repeat(24), "12 12 1;" + ";".repeat(24));
    }

    @Sentence("4 a length of 0;")
    private static void term2_aLengthOfZero() {
        fault("1 1 1;0;;", 4, 6);
        fault("1 1 1; 00 ;;", 4, 7);
        fault("1 1 1;0b;", 4, 6);
        fault("1 1 1;;0;", 4, 7);
        fault("1 1 1;1 0;", 4, 8);
        fault("1 1 1;0", 4, 6);
    }

    @Sentence("a letter above C, at it.")
    private static void term2_aLetterAboveC() {
        for (int c = 1; c <= 3; c++) {
            for (int letter = 1; letter <= 3; letter++) {
                String run = "1" + "abc".charAt(letter - 1);
                String text = "1 1 " + c + ";" + run + ";" + run + ";";
                if (letter > c) {
                    fault(text, 4, 7);
                } else {
                    good(text, text);
                }
            }
        }
        fault("1 1 1;1 \n c;", 4, 10);
        fault("1 1 2;;1c;", 4, 8);
    }

    @Sentence("5 a 13th RUN of a LINE, at its NUMBER.")
    private static void term2_aThirteenthRun() {
        String twelve = "1a1b".repeat(6);
        fault("12 1 2;" + twelve + "1;", 5, 31);
        fault("12 1 2;" + twelve + "\n 99 c;", 5, 33);
        fault("12 1 2;" + twelve + "1", 5, 31);
        fault("1 1 1;" + "1 ".repeat(12) + ";", 6, 30);
        fault("1 1 1;" + "1 ".repeat(12), 2, 30);
        fault("1 12 2;" + "1a;1b;".repeat(6) + twelve + "1;", 5, 67);
        // twelve a line, and not of all lines together
        String two = "12 2 2;" + (twelve + ";").repeat(2) + "2a;2b;".repeat(6);
        good(two, two);
    }

    @Sentence("6 RUNS that no row of as many cells READS AS, at the LINE's ; .")
    private static void term2_runsThatNoRowReadsAs() {
        fault("1 1 1;2;2;", 6, 7);
        fault("12 1 1;13;", 6, 9);
        fault("12 1 1;6 6;", 6, 10);
        fault("12 1 1;6 5", 2, 10);
        fault("2 1 1;1 1 ;", 6, 10);
        fault("3 2 1;1 1;;2;3;", 6, 14);
        fault("2 3 1;1;1 1;", 6, 11);
        fault("2 1 2;1b1b;", 6, 10);
        fault("2 1 2;1b1a1b;", 6, 12);
        fault("1 1 1;" + "99 ".repeat(12) + ";", 6, 42);
        good("2 1 2;1b1;1b;1;", "2 1 2;1b1a;1b;1a;");
        good("3 1 2;1b1b;1b;1b;;", "3 1 2;1b1b;1b;1b;;");
        good("12 1 1;6 5;" + "1;".repeat(11) + ";", "12 1 1;6a5a;" + "1a;".repeat(11) + ";");
        good("1 12 1;" + "1;".repeat(12) + "12;", "1 12 1;" + "1a;".repeat(12) + "12a;");
    }

    @Sentence("Behind all that (nothing else comes):")
    private static void term2_theSumsComeBehindAll() {
        fault("1 1 1;1;;x", 1, 9);
        fault("1 1 1;1;; ;", 2, 10);
        fault("1 1 1;1;;0", 2, 9);
        fault("2 1 1;1;;2;", 6, 10);
        fault("1 1 1;1;0;", 4, 8);
        fault("1 1 1;1;", 2, 8);
    }

    @Sentence("7 there is a colour of which rows and columns together tell unlike numbers of cells, "
            + "at the text's length.")
    private static void term2_aColourOfUnlikeNumbers() {
        fault("1 1 1;1;;", 7, 9);
        fault("1 1 1;;1; \n", 7, 11);
        fault("1 1 3;1b;1a;", 7, 12);
        fault("1 1 3;1c;1b;", 7, 12);
        fault("1 1 3;;1c;", 7, 10);
        fault("2 1 2;1a1b;1b;1b;", 7, 17);
        fault("2 2 1;2;1;1;1;", 7, 14);
        good("2 2 1;2;;2;;", "2 2 1;2a;;2a;;");
        good("2 1 3;1a1c;1c;1a;", "2 1 3;1a1c;1c;1a;");
    }

    // ---- term 3: sets, the line rule and rest

    @Sentence("SETS. Each cell has a SET of VALUES. FIRST SETS: of a GIVEN its VALUE alone, of others 0 to C.")
    private static void term3_firstSets() {
        for (int c = 1; c <= 3; c++) {
            CellPictures x = Look.blank(2, 1, c);
            for (int v = 0; v <= c; v++) {
                x.give(0, 0, v);
                x.fresh();
                due("the set of a given " + v, x.set(0, 0), 1 << v);
                due("the set of another cell with " + c + " colours", x.set(1, 0), (2 << c) - 1);
            }
            CellPictures full = Look.blank(12, 12, c);
            full.fresh();
            String row = Integer.toHexString((2 << c) - 1).repeat(12);
            due("the sets of all cells with " + c + " colours", Look.sets(full), (row + "/").repeat(11) + row);
        }
    }

    @Sentence("LINE RULE: of all rows of VALUES, each from its cell's SET, that READ AS the LINE's RUNS (its WAYS):")
    private static void term3_waysAreRowsFromTheSets() {
        due("no runs in twelve cells", ways("12 1 1;;" + ";".repeat(12)), 1);
        due("12 in twelve", ways("12 1 1;12;" + "1;".repeat(12)), 1);
        due("11 in twelve", ways("12 1 1;11;" + "1;".repeat(11) + ";"), 2);
        due("1 in twelve", ways("12 1 1;1;1;" + ";".repeat(11)), 12);
        due("1 1 in three", ways("3 1 1;1 1;1;1;;"), 1);
        due("1 1 in five", ways("5 1 1;1 1;1;1;;;;"), 6);
        due("1 1 1 1 1 1 in twelve", ways("12 1 1;1 1 1 1 1 1;" + "1;".repeat(6) + ";".repeat(6)), 7);
        due("a b c in four", ways("4 1 3;1a1b1c;1;1b;1c;;"), 4);
        String most = "12 1 2;1a1b1a1b1a1b;1;1;1;1b;1b;1b;" + ";".repeat(6);
        due("the most that there are", ways(most), 924);
        CellPictures x = Look.loaded(most);
        x.give(0, 0, 0);
        x.fresh();
        due("with a blank at first", x.ways(0), 462);
        x.give(0, 0, 1);
        x.give(11, 0, 2);
        x.fresh();
        due("with its first and last run", x.ways(0), 210);
        x.give(0, 0, 2);
        x.fresh();
        due("with another colour at first", x.ways(0), 0);
    }

    @Sentence("LINE RULE: of all rows of VALUES, each from its cell's SET, that READ AS the LINE's RUNS (its WAYS): "
            + "if there is none, it FAILS (nothing changes), "
            + "else each cell's SET becomes that of all VALUES which it has in one of them.")
    private static void term3_theLineRuleWithAnyGivens() {
        for (String picture : new String[] {".....", "1.1..", "11.1.", "12.2.", "1122.", "21212", "2...1", "22222"}) {
            for (int givens = 0; givens < 4 * 4 * 4 * 4 * 4; givens++) {
                compareWithAllRows(picture, givens);
            }
        }
    }

    /** Givens: a digit to the base of 4 a cell; 3 is none. */
    private static void compareWithAllRows(String picture, int givens) {
        CellPictures x = Look.drawn(2, picture);
        int[] given = new int[5];
        for (int i = 0; i < 5; i++) {
            given[i] = givens >> 2 * i & 3;
            x.give(i, 0, given[i] == 3 ? NONE : given[i]);
        }
        x.fresh();
        int ways = 0;
        int[] kept = new int[5];
        for (int n = 0; n < 3 * 3 * 3 * 3 * 3; n++) {
            int[] row = {n / 81, n / 27 % 3, n / 9 % 3, n / 3 % 3, n % 3};
            boolean isWay = reads(row).equals(Look.runs(x, 0));
            for (int i = 0; i < 5; i++) {
                isWay &= given[i] == 3 || given[i] == row[i];
            }
            for (int i = 0; i < 5 && isWay; i++) {
                kept[i] |= 1 << row[i];
            }
            ways += isWay ? 1 : 0;
        }
        int smaller = 0;
        StringBuilder sets = new StringBuilder();
        for (int i = 0; i < 5; i++) {
            int first = given[i] == 3 ? 7 : 1 << given[i];
            smaller += kept[i] == first ? 0 : 1;
            sets.append(ways == 0 ? first : kept[i]);
        }
        String which = " of " + picture + " with givens " + Look.givens(x);
        due("ways" + which, x.ways(0), ways);
        due("rule" + which, x.rule(0), ways == 0 ? -2 : smaller);
        due("sets" + which, Look.sets(x), sets.toString());
    }

    private static String reads(int[] row) {
        StringBuilder text = new StringBuilder();
        for (int i = 0; i < row.length;) {
            int end = i;
            while (end < row.length && row[end] == row[i]) {
                end++;
            }
            if (row[i] != 0) {
                text.append(end - i).append("-ab".charAt(row[i]));
            }
            i = end;
        }
        return text.toString();
    }

    private static long ways(String text) {
        CellPictures x = Look.loaded(text);
        x.fresh();
        return x.ways(0);
    }

    @Sentence("if there is none, it FAILS (nothing changes),")
    private static void term3_theLineRuleFails() {
        CellPictures x = Look.loaded("4 1 1;1 1;1;;1;;");
        x.give(1, 0, 1);
        x.give(2, 0, 1);
        x.fresh();
        due("the rule", x.rule(0), -2);
        due("nothing changes", Look.sets(x), "3223");
        CellPictures none = Look.blank(3, 1, 2);
        none.give(2, 0, 2);
        none.fresh();
        due("the rule of no runs", none.rule(0), -2);
        due("nothing changes", Look.sets(none), "774");
    }

    @Sentence("else each cell's SET becomes that of all VALUES which it has in one of them.")
    private static void term3_theLineRuleLeavesWhatIsInAWay() {
        due("no runs", ruled("3 1 3;;;;;"), "111");
        due("a full line", ruled("3 1 1;3;1;1;1;"), "222");
        due("one way", ruled("3 1 1;1 1;1;;1;"), "212");
        due("3 in five", ruled("5 1 1;3;1;1;1;;;"), "33233");
        due("2 in five", ruled("5 1 1;2;1;1;;;;"), "33333");
        due("a b c in four", ruled("4 1 3;1a1b1c;1;1b;1c;;"), "37d9");
        due("b b a in four", ruled("4 1 2;2b1;1b;1b;1;;"), "5473");
    }

    private static String ruled(String text) {
        CellPictures x = Look.loaded(text);
        x.fresh();
        x.rule(0);
        return Look.sets(x);
    }

    @Sentence("REST: the LINE RULE on the LINES by their numbers, again and again, "
            + "till a whole round in which no SET became smaller;")
    private static void term3_restTillAWholeRoundChangesNothing() {
        CellPictures one = Look.blank(1, 1, 1);
        due("one cell", one.rest(), 4);
        due("its set", Look.sets(one), "1");
        due("one cell at rest", one.rest(), 2);
        CellPictures later = Look.drawn(1, "1./1./.1");
        later.rest();
        due("what the second round tells", Look.sets(later), "33/21/33");
        // row by row and column by column from the first on: two rounds, three from the last on
        CellPictures x = Look.drawn(1, ".1./1.1");
        due("the lines by their numbers", x.rest(), 10);
        due("its sets", Look.sets(x), "121/212");
        due("nothing to tell", Look.loaded(TWO).rest(), 4);
    }

    @Sentence("or till it FAILS.")
    private static void term3_restTillItFails() {
        CellPictures x = Look.loaded(NO_WAY);
        due("rest", x.rest(), -2);
        // line 4 has no runs: it is behind the one that fails, and was not used
        due("its sets", Look.sets(x), "212/223");
        CellPictures first = Look.blank(2, 2, 1);
        first.give(0, 0, 1);
        due("the first line fails", first.rest(), -2);
        due("no other is used", Look.sets(first), "23/33");
    }

    @Sentence("USES: how often the LINE RULE was used in that.")
    private static void term3_usesCountEachLineOfEachRound() {
        CellPictures x = Look.drawn(1, ".1./111/.1.");
        due("two rounds of six lines", x.rest(), 12);
        due("one round of six lines", x.rest(), 6);
        CellPictures full = Look.blank(12, 12, 3);
        due("two rounds of 24 lines", full.rest(), 48);
        due("one round of 24 lines", full.rest(), 24);
        due("three rounds", Look.loaded(NO_TRYING).rest(), 24);
    }

    // ---- term 3: trying

    private static CellPictures tried(int colours, String picture, int left) {
        CellPictures x = Look.drawn(colours, picture);
        due("tries of " + picture, x.tries(), left);
        return x;
    }

    @Sentence("TRYING: by rounds over the cells in order,")
    private static void term3_tryingGoesOverTheCellsInOrder() {
        // column by column there would be 3 and 1, from the cells' beginning behind each that left 4
        tried(1, "1...1/.1..1/..11.", 2);
        tried(1, "..11../111.../.1..1.", 1);
        tried(1, "1..1/..../..1./.1.1/1.1./11..", 3);
    }

    @Sentence("and over the VALUES of a cell's SET, the least first,")
    private static void term3_tryingGoesOverTheValuesFromTheLeast() {
        // two values leave one cell in one round
        tried(2, "1..1/.1../.1.2/2.1./.22.", 5);
        CellPictures x = Look.loaded(NO_TRYING);
        due("tries", x.tries(), -2);
        due("0 left the first cell, not 1", x.set(0, 0), 2);
        due("its sets", Look.sets(x), "2133/1212/1212/2133");
    }

    @Sentence("of cells that have two at least then:")
    private static void term3_cellsOfOneValueAreNotTried() {
        CellPictures x = Look.drawn(1, ".1./111/.1.");
        due("all have one value at rest", x.tries(), 0);
        due("its sets", Look.sets(x), "121/222/121");
        CellPictures one = Look.blank(1, 1, 3);
        due("one cell", one.tries(), 0);
        due("its set", Look.sets(one), "1");
    }

    @Sentence("SETS like these, but this cell's has that VALUE alone, are brought to REST;")
    private static void term3_tryingBringsATrialToRest() {
        CellPictures x = Look.loaded(TWO);
        due("both values of each cell are content", x.tries(), 0);
        due("a trial leaves the sets", Look.sets(x), "33/33");
        // one use of the two lines through a cell would show nothing
        due("its sets", Look.sets(tried(1, BY_TRYING, 1)), "12/21/21/12");
    }

    @Sentence("if that FAILS, the VALUE leaves the cell's SET, and these SETS are brought to REST")
    private static void term3_aValueLeavesAndTheSetsAreBroughtToRest() {
        CellPictures x = Look.drawn(1, BY_TRYING);
        due("rest", x.rest(), 6);
        due("its sets at rest", Look.sets(x), "33/33/33/33");
        due("one value left by trying", x.tries(), 1);
        due("the others by rest behind it", Look.sets(x), "12/21/21/12");
        due("it is at rest", x.rest(), 6);
    }

    @Sentence("(if that FAILS, all FAILS);")
    private static void term3_tryingFails() {
        CellPictures x = Look.loaded(NO_TRYING);
        due("rest", x.rest(), 24);
        due("tries", x.tries(), -2);
        due("level", x.level(), 4);
    }

    @Sentence("rounds, till a whole one in which none left.")
    private static void term3_tryingGoesOnTillARoundTakesNone() {
        CellPictures x = tried(1, ".1./1../.../.1./..1/..1", 3);
        due("its sets", Look.sets(x), "333/333/111/133/313/133");
        due("none leaves any more", x.tries(), 0);
        CellPictures y = tried(1, "...11/....1/11.../.1.../..1../..1..", 8);
        due("its sets", Look.sets(y), "33333/13313/33333/13313/11313/31313");
    }

    @Sentence("(A cell is left as soon as its SET has one VALUE.)")
    private static void term3_aCellOfOneValueIsLeft() {
        // each value of the first cell fails: the last one stays in its set
        CellPictures x = Look.loaded(NO_TRYING);
        x.tries();
        due("the first cell", x.set(0, 0), 2);
        for (int i = 0; i < 16; i++) {
            due("cell " + i + " has a value", x.set(i % 4, i / 4) > 0, true);
        }
        CellPictures y = tried(1, BY_TRYING, 1);
        due("cells of one value", y.about(7), 8);
    }

    // ---- term 3: search

    private static void searched(CellPictures x, int wanted, int found, int nodes) {
        due("search for " + wanted, x.search(wanted, 1000), found);
        due("nodes for " + wanted, x.nodes(), nodes);
    }

    @Sentence("SEARCH: SETS are brought to REST; if that FAILS there is nothing;")
    private static void term3_searchBringsToRest() {
        searched(Look.loaded(NO_WAY), 2, 0, 0);
        searched(Look.loaded(NO_TRYING), 2, 0, 2);
        // by trying there would be no node
        searched(Look.drawn(1, BY_TRYING), 2, 1, 2);
        CellPictures x = Look.loaded(TWO);
        x.give(0, 0, 1);
        x.give(1, 0, 1);
        searched(x, 2, 0, 0);
        due("no solution", x.solution(0, 0, 0), NONE);
    }

    @Sentence("if all have one VALUE, that is a SOLUTION;")
    private static void term3_setsOfOneValueAreASolution() {
        CellPictures x = Look.drawn(1, ".1./111/.1.");
        searched(x, 50, 1, 0);
        due("it", Look.solution(x, 0), "010/111/010");
        CellPictures one = Look.blank(1, 1, 3);
        searched(one, 50, 1, 0);
        due("it", Look.solution(one, 0), "0");
        CellPictures full = Look.blank(12, 12, 3);
        searched(full, 50, 1, 0);
    }

    @Sentence("else of the cells with the fewest VALUES, two at least, the first one:")
    private static void term3_theFirstCellOfTheFewestValues() {
        // with the cells of most values there would be 3 nodes
        searched(Look.drawn(2, ".2./2.1/.1."), 50, 3, 4);
        // with the last one 2 nodes
        searched(Look.drawn(1, BY_TRYING), 1, 1, 1);
        // column by column the second would be 010/001/100
        CellPictures x = Look.drawn(1, "..1/1../.1.");
        searched(x, 2, 2, 4);
        due("the first", Look.solution(x, 0), "001/010/100");
        due("the second", Look.solution(x, 1), "001/100/010");
    }

    @Sentence("for each of its VALUES, the least first:")
    private static void term3_theLeastValueFirst() {
        CellPictures x = Look.loaded(TWO);
        searched(x, 50, 2, 2);
        due("with 0 first", Look.solution(x, 0), "01/10");
        due("with 1 then", Look.solution(x, 1), "10/01");
    }

    @Sentence("a NODE more, and SEARCH with these SETS, but its SET has that VALUE alone.")
    private static void term3_eachValueIsANode() {
        searched(Look.loaded(TWO), 1, 1, 1);
        searched(Look.drawn(1, "1../.1./..1"), 50, 6, 10);
        // the first row is told by its 11 blanks, the next by 10, ..
        StringBuilder ones = new StringBuilder("12 12 1;");
        searched(Look.loaded(ones.append("1;".repeat(24)).toString()), 1, 1, 66);
    }

    @Sentence("It ends as soon as as many SOLUTIONS were found as were asked for.")
    private static void term3_searchEndsWithTheLastThatWasAskedFor() {
        CellPictures x = Look.drawn(1, "1../.1./..1");
        int[] nodes = {3, 4, 6, 7, 9, 10};
        for (int n = 1; n <= 6; n++) {
            searched(x, n, n, nodes[n - 1]);
        }
        searched(x, 7, 6, 10);
        due("with just as many nodes", x.search(3, 6), 3);
        due("with one less", x.search(3, 5), -2);
    }

    @Sentence("Ahead of a NODE above the most that are allowed it is SPENT.")
    private static void term3_spentAheadOfANodeTooMany() {
        CellPictures x = Look.loaded(TWO);
        due("two nodes are all", x.search(50, 2), 2);
        due("nodes", x.nodes(), 2);
        due("ahead of the second", x.search(50, 1), -2);
        due("nodes", x.nodes(), 1);
        due("ahead of the first", x.search(50, 0), -2);
        due("nodes", x.nodes(), 0);
        due("no node is needed", Look.drawn(1, ".1./111/.1.").search(50, 0), 1);
        due("nothing is found without a node", Look.loaded(NO_WAY).search(50, 0), 0);
        due("a search behind one that was spent", x.search(50, 2), 2);
    }

    // ---- term 4

    @Sentence("MARKS of a hand: each cell is marked with a VALUE or not; at first (with a new PUZZLE) none is.")
    private static void term4_noMarksAtFirst() {
        CellPictures x = Look.loaded(TWO);
        due("at first", Look.marks(x), "../..");
        x.mark(0, 0, 0);
        x.mark(1, 1, 1);
        due("marked", Look.marks(x), "0./.1");
        Look.feed(x, TWO);
        x.load();
        due("with a new puzzle", Look.marks(x), "../..");
        x.mark(0, 0, 1);
        x.blank(2, 2, 1);
        due("with a blank puzzle", Look.marks(x), "../..");
    }

    @Sentence("LEVEL of a PUZZLE (each from the FIRST SETS):")
    private static void term4_levelIsFromTheFirstSets() {
        CellPictures x = Look.loaded(TWO);
        x.give(0, 0, 1);
        x.fresh();
        x.rest();
        x.give(0, 0, NONE);
        due("the sets tell all", x.about(7), 4);
        due("level without the given", x.level(), 3);
        x.fresh();
        x.give(0, 0, 1);
        due("the sets tell nothing", x.about(7), 0);
        due("level with the given", x.level(), 0);
    }

    @Sentence("0 if REST leaves one VALUE in each cell;")
    private static void term4_level0() {
        due("level", Look.drawn(1, ".1./111/.1.").level(), 0);
        due("level of one cell", Look.blank(1, 1, 1).level(), 0);
        due("level of a blank", Look.blank(12, 12, 3).level(), 0);
        due("level of what the second round tells", Look.drawn(1, ".1./.11").level(), 0);
    }

    @Sentence("else 1 if TRYING, behind that, does;")
    private static void term4_level1() {
        due("level", Look.drawn(1, BY_TRYING).level(), 1);
        due("level", Look.loaded("4 4 1;2;2;1;1;2;1 1;1;1;").level(), 1);
        due("level with one solution that trying does not tell", Look.drawn(1, BY_SEARCH).level(), 2);
    }

    @Sentence("else, by a SEARCH for two SOLUTIONS with 400 NODES at most:")
    private static void term4_levelBy400Nodes() {
        CellPictures x = Look.drawn(1, BY_400_NODES);
        searched(x, 2, 2, 400);
        due("level by the 400th node", x.level(), 3);
        CellPictures y = Look.drawn(1, BY_401_NODES);
        searched(y, 2, 2, 401);
        due("level ahead of the 401st", y.level(), 5);
    }

    @Sentence("5 if it is SPENT (whatever it found),")
    private static void term4_level5() {
        CellPictures one = Look.drawn(1, BY_401_NODES);
        due("spent", one.search(2, 400), -2);
        due("one was found", one.solution(0, 0, 0) != NONE, true);
        due("level", one.level(), 5);
        CellPictures none = Look.drawn(1, NONE_BY_400_NODES);
        due("spent", none.search(2, 400), -2);
        due("none was found", none.solution(0, 0, 0), NONE);
        due("level", none.level(), 5);
        for (int x = 0; x < 8; x++) {
            for (int y = 0; y < 8; y++) {
                none.give(x, y, Math.max(0, none.marked(x, y)));
            }
        }
        due("level with all given", none.level(), 0);
        none.blank(2, 2, 1);
        Look.mark(none, "1./.1");
        none.draw();
        due("level by a search behind one that was spent", none.level(), 3);
    }

    @Sentence("2 if it finds one,")
    private static void term4_level2() {
        CellPictures x = Look.drawn(1, BY_SEARCH);
        due("solutions", x.search(2, 400), 1);
        due("level", x.level(), 2);
    }

    @Sentence("3 two,")
    private static void term4_level3() {
        due("level of two", Look.loaded(TWO).level(), 3);
        due("level of six", Look.drawn(1, "1../.1./..1").level(), 3);
    }

    @Sentence("4 none.")
    private static void term4_level4() {
        CellPictures x = Look.loaded(NO_SEARCH);
        due("tries", x.tries(), 19);
        due("cells of one value are not all", x.about(7) < 100, true);
        due("solutions", x.search(2, 400), 0);
        due("level", x.level(), 4);
    }

    @Sentence("(4 also if REST or TRYING FAILS.)")
    private static void term4_level4IfRestOrTryingFails() {
        due("level, if rest fails", Look.loaded(NO_WAY).level(), 4);
        due("level, if trying fails", Look.loaded(NO_TRYING).level(), 4);
        CellPictures x = Look.blank(1, 1, 1);
        x.give(0, 0, 1);
        due("level of one cell", x.level(), 4);
    }
}
