/** The promises one by one: ordinary inputs, the edges that the document names, wrong inputs. */
public final class PromisesTest {
    private static final int NONE = -1;
    private static final String TWO = "2 2 1;1;1;1;1;";
    /** Row 0 tells its cells at once; then column 1 has no way. */
    private static final String NO_WAY = "3 2 1;1 1;2;2;2;;";
    /** REST shows no cell of it, TRYING all. */
    private static final String BY_TRYING = "4 4 1;2;2;1;1;2;1 1;1;1;";
    /** REST is content with it, TRYING is not. */
    private static final String NOT_BY_TRYING = "4 4 1;1 1;1 1;1 1;2;1 1;2;1;3;";
    /** TRYING is content with it, SEARCH finds nothing. */
    private static final String NOT_BY_SEARCH = "10 10 1;1 1;1 2 1;1 1 4;1 1;1 1;1;2 1;1 2;1 2;2 1;"
            + "1;2 1;1;2 2;3 1;2 2;1;1 1 1 1;2 1 1;2 1;";
    private static int wrong = 0;
    private static int answers = 0;

    private static void due(String what, long got, long want) {
        answers++;
        if (got != want) {
            wrong++;
            System.out.println(what + " answered " + got + ", due is " + want);
        }
    }

    private static void due(String what, boolean got, boolean want) {
        due(what, got ? 1 : 0, want ? 1 : 0);
    }

    public static void main(String[] args) {
        newObject();
        feedAndEnd();
        loadOfGoodTexts();
        faultsOfTheCut();
        faultsOfTheHead();
        faultsOfLines();
        faultsOfSums();
        faultLeavesAll();
        blankPuzzle();
        aboutAndRun();
        giveAndGiven();
        freshSets();
        ruleAndWays();
        rulesOfColours();
        restOfSets();
        triesOfSets();
        triesThatFail();
        setOfCells();
        searchAndNodes();
        searchLimits();
        solutionsKept();
        levels();
        marksAndDone();
        wrongMarks();
        hints();
        drawing();
        mending();
        mendingSpent();
        System.out.println(answers + " answers: " + (wrong == 0 ? "all are as due" : wrong + " are not as due"));
        if (wrong != 0) {
            System.exit(1);
        }
    }

    // ---- helps

    private static int feedText(CellPictures x, String text) {
        for (int at = 0; at < text.length(); at += 20) {
            int[] n = new int[5];
            for (int i = 0; i < 20; i++) {
                int b = at + i < text.length() ? text.charAt(at + i) : 0;
                n[i / 4] = n[i / 4] << 8 | b;
            }
            x.feed(n[0], n[1], n[2], n[3], n[4]);
        }
        return x.end(text.length());
    }

    private static CellPictures loaded(String text) {
        CellPictures x = new CellPictures();
        due("end of '" + text + "'", feedText(x, text), text.length());
        due("load of '" + text + "' fails", x.load() < 0, false);
        return x;
    }

    /** A picture of rows: . blank, # or a the first colour, b and c the others; marked and drawn. */
    private static CellPictures drawn(int colours, String... rows) {
        CellPictures x = new CellPictures();
        due("blank", x.blank(rows[0].length(), rows.length, colours), true);
        markRows(x, rows);
        x.draw();
        return x;
    }

    private static void markRows(CellPictures x, String... rows) {
        for (int y = 0; y < rows.length; y++) {
            for (int i = 0; i < rows[y].length(); i++) {
                int v = Math.max(".abc".indexOf(rows[y].charAt(i)), rows[y].charAt(i) == '#' ? 1 : 0);
                if (v > 0) {
                    due("mark", x.mark(i, y, v), true);
                }
            }
        }
    }

    private static void fault(String text, int kind, int place) {
        CellPictures x = new CellPictures();
        feedText(x, text);
        due("load of '" + text + "'", x.load(), -1 - place);
        due("fault of '" + text + "'", x.fault(), kind);
        due("about behind '" + text + "'", x.about(0), NONE);
        due("the tape behind '" + text + "'", x.end(1), NONE);
    }

    private static void good(String text, int runs) {
        CellPictures x = new CellPictures();
        feedText(x, text);
        due("load of '" + text + "'", x.load(), runs);
        due("fault of '" + text + "'", x.fault(), 0);
        due("runs of '" + text + "'", x.about(4), runs);
        due("the tape behind '" + text + "'", x.end(1), NONE);
    }

    private static String times(String part, int n) {
        return part.repeat(n);
    }

    private static void sets(CellPictures x, int y, int... due) {
        for (int i = 0; i < due.length; i++) {
            due("set(" + i + ", " + y + ")", x.set(i, y), due[i]);
        }
    }

    private static void solution(CellPictures x, int k, int y, int... due) {
        for (int i = 0; i < due.length; i++) {
            due("solution(" + k + ", " + i + ", " + y + ")", x.solution(k, i, y), due[i]);
        }
    }

    // ---- promise 1

    private static void newObject() {
        CellPictures x = new CellPictures();
        due("new: end(1)", x.end(1), NONE);
        due("new: end(0)", x.end(0), 0);
        due("new: fault", x.fault(), 0);
        for (int what = -1; what <= 8; what++) {
            due("new: about", x.about(what), NONE);
        }
        due("new: run", x.run(0, NONE, 0), NONE);
        due("new: give", x.give(0, 0, 0), false);
        due("new: give none", x.give(0, 0, NONE), false);
        due("new: given", x.given(0, 0), NONE);
        due("new: fresh", x.fresh(), false);
        due("new: rule", x.rule(0), NONE);
        due("new: ways", x.ways(0), NONE);
        due("new: rest", x.rest(), NONE);
        due("new: tries", x.tries(), NONE);
        due("new: set", x.set(0, 0), NONE);
        due("new: search", x.search(1, 1), NONE);
        due("new: nodes", x.nodes(), NONE);
        due("new: solution", x.solution(0, 0, 0), NONE);
        due("new: level", x.level(), NONE);
        due("new: mark", x.mark(0, 0, 0), false);
        due("new: marked", x.marked(0, 0), NONE);
        due("new: done", x.done(), NONE);
        due("new: wrong", x.wrong(), NONE);
        due("new: hint", x.hint(), NONE);
        due("new: draw", x.draw(), NONE);
        due("new: mend", x.mend(), NONE);
    }

    // ---- promises 2 and 3

    private static void feedAndEnd() {
        CellPictures x = new CellPictures();
        for (int i = 1; i <= 45; i++) {
            due("feed", x.feed(0x3B3B3B3B, -1, 0x7F000000, Integer.MIN_VALUE, Integer.MAX_VALUE), 20 * i);
        }
        due("feed of a full tape", x.feed(0, 0, 0, 0, 0), NONE);
        due("end(901)", x.end(901), NONE);
        due("end(900)", x.end(900), 900);
        due("end(881)", x.end(881), 881);
        due("feed above 900", x.feed(0, 0, 0, 0, 0), NONE);
        due("end(880)", x.end(880), 880);
        due("feed up to 900", x.feed(0, 0, 0, 0, 0), 900);
        due("end(-1)", x.end(-1), NONE);
        due("end(least)", x.end(Integer.MIN_VALUE), NONE);
        due("end(most)", x.end(Integer.MAX_VALUE), NONE);
        due("end(4)", x.end(4), 4);
        due("end(5)", x.end(5), NONE);
        due("load of ;;;;", x.load(), -1);
        due("fault of ;;;;", x.fault(), 2);

        // 3 2 1; .. : each number's highest byte comes first, the numbers in their order
        due("feed", x.feed(0x33203220, 0x313B323B, 0x313B313B, 0x323B3B00, 0xFFFFFFFF), 20);
        due("end", x.end(15), 15);
        due("load", x.load(), 4);
        due("width", x.about(0), 3);
        due("height", x.about(1), 2);
        due("run of row 0", x.run(0, 0, 0), 2);
        due("run of row 1", x.run(1, 0, 0), 1);
        due("run of column 1", x.run(3, 0, 0), 2);
        due("runs of column 2", x.run(4, NONE, 0), 0);
    }

    // ---- promises 4 and 5

    private static void loadOfGoodTexts() {
        good(TWO, 4);
        good("1 1 1;;;", 0);
        good("01 01 01;;;", 0);
        good("1 1 1;1;1;", 2);
        good("1 1 1;1a;01a;", 2);
        good("\n1\n1 1\n;1 \n a ; 1;\n \n", 2);
        good("12 12 3;" + times(";", 24), 0);
        good("2 1 2;1a1b;1;1b;", 4);
        good("2 1 2;1 1b;1;1b;", 4);
        good("3 1 3;1a1b1c;1a;1b;1c;", 6);
        good("12 1 2;" + times("1a1b", 6) + ";" + times("1;1b;", 6), 24);
        good("12 1 1;12;" + times("1;", 12), 13);
        good("1 12 1;" + times("1;", 12) + "12;", 13);
        String long900 = "1 1 1;1;1;" + times(" ", 890);
        good(long900, 2);
    }

    private static void faultsOfTheCut() {
        fault("x", 1, 0);
        fault("1 1 1;1;1;d", 1, 10);
        fault("1 1 1;1;1;\t", 1, 10);
        fault("1 1 1;1;1;\r", 1, 10);
        fault("1 1 1;1;1;\0", 1, 10);
        fault("1 1 1;1A;1;", 1, 7);
        fault("1 1 1;1;1;\u00ff", 1, 10);
        fault("1 1 1;1;1;\u00bb", 1, 10);
        fault("1 1 1;001;1;", 1, 6);
        fault("99 99 9;;;;;aaa 1234", 1, 16);
        fault("0 : 123", 1, 2);
        fault("0 123 :", 1, 2);
        fault("1 1 1;1/;", 1, 7);
        fault(times("1", 900), 1, 0);
        fault(times("9 ", 449) + "1x", 1, 899);
    }

    private static void faultsOfTheHead() {
        fault("", 2, 0);
        fault(" \n ", 2, 3);
        fault(";", 2, 0);
        fault("a", 2, 0);
        fault("1", 2, 1);
        fault("1 1", 2, 3);
        fault("1 1 1 ", 2, 6);
        fault("1 1 1 1;", 2, 6);
        fault("1 1 1a;", 2, 5);
        fault("1;", 2, 1);
        fault("1 1;", 2, 3);
        fault("0 1 1;", 3, 0);
        fault("13 1 1;", 3, 0);
        fault(" 99 a", 3, 1);
        fault("1 0 1;", 3, 2);
        fault("1 13 1;", 3, 2);
        fault("1 1 0;", 3, 4);
        fault("1 1 4;", 3, 4);
        fault("1 1 00", 3, 4);
        fault("13 a 9;", 3, 0);
        fault("1 a 9;", 2, 2);
    }

    private static void faultsOfLines() {
        fault("1 1 1;", 2, 6);
        fault("1 1 1;1", 2, 7);
        fault("1 1 1;1a ", 2, 9);
        fault("1 1 1;;", 2, 7);
        fault("1 1 1;;;;", 2, 8);
        fault("1 1 1;;; 0", 2, 9);
        fault("1 1 1;a;", 2, 6);
        fault("1 1 1;1aa;", 2, 8);
        fault("1 1 1;b;", 2, 6);
        fault("1 1 1;0;;", 4, 6);
        fault("1 1 1;00a;", 4, 6);
        fault("1 1 1;1b;", 4, 7);
        fault("1 1 2;1 c;", 4, 8);
        fault("1 1 1;9b;", 4, 7);
        fault("12 1 2;" + times("1a1b", 6) + "1;", 5, 31);
        fault("12 1 2;" + times("1a1b", 6) + "0;", 4, 31);
        fault("12 1 2;" + times("1a1b", 6) + "9c;", 5, 31);
        fault("12 1 2;" + times("1a1b", 6) + "a;", 2, 31);
        fault("1 1 1;" + times("9 ", 12) + ";", 6, 30);
        fault("1 1 1;2;2;", 6, 7);
        fault("1 2 1;1;1;3;", 6, 11);
        fault("2 1 1;1 1;1;1;", 6, 9);
        fault("2 1 2;1b1b;1b;1b;", 6, 10);
        fault("3 1 2;1 1b1 ;;;;", 7, 16);
        fault("12 1 1;1 2 3 4;", 6, 14);
        fault("12 1 1;1 2 3 3;", 2, 15);
    }

    private static void faultsOfSums() {
        fault("1 1 1;1;;", 7, 9);
        fault("1 1 1;;1; \n", 7, 11);
        fault("2 1 2;1a1b;1b;1b;", 7, 17);
        fault("2 2 1;2;1;1;1;", 7, 14);
        fault("1 1 3;1c;1b;", 7, 12);
        fault("1 1 1;1;; ;", 2, 10);
    }

    private static void faultLeavesAll() {
        CellPictures x = loaded(TWO);
        x.mark(0, 0, 1);
        x.give(1, 1, 1);
        x.fresh();
        x.search(2, 9);
        feedText(x, "3 3 1;");
        due("load", x.load(), -7);
        due("fault", x.fault(), 2);
        due("width", x.about(0), 2);
        due("runs", x.about(4), 4);
        due("marked", x.marked(0, 0), 1);
        due("given", x.given(1, 1), 1);
        due("set", x.set(1, 1), 2);
        due("nodes", x.nodes(), 0);
        due("solution", x.solution(0, 0, 0), 1);
        due("blank", x.blank(1, 1, 1), true);
        due("fault of the latest load", x.fault(), 2);
        feedText(x, TWO);
        due("load", x.load(), 4);
        due("fault", x.fault(), 0);
        x.mark(0, 0, 1);
        x.give(1, 1, 1);
        x.fresh();
        x.search(2, 9);
        feedText(x, TWO);
        due("load again", x.load(), 4);
        due("marks behind load", x.about(6), 0);
        due("givens behind load", x.about(5), 0);
        due("sets behind load", x.set(0, 0), NONE);
        due("nodes behind load", x.nodes(), NONE);
        due("solution behind load", x.solution(0, 0, 0), NONE);
    }

    // ---- promise 6

    private static void blankPuzzle() {
        CellPictures x = loaded(TWO);
        x.mark(0, 0, 1);
        x.give(0, 0, 1);
        x.fresh();
        x.search(2, 9);
        int[][] others = {{0, 1, 1}, {13, 1, 1}, {1, 0, 1}, {1, 13, 1}, {1, 1, 0}, {1, 1, 4}, {-1, 1, 1},
            {Integer.MAX_VALUE, 1, 1}, {1, Integer.MIN_VALUE, 1}};
        for (int[] o : others) {
            due("blank of others", x.blank(o[0], o[1], o[2]), false);
        }
        due("runs behind others", x.about(4), 4);
        due("marks behind others", x.about(6), 1);
        due("set behind others", x.set(0, 0), 2);
        feedText(x, TWO);
        due("blank", x.blank(12, 1, 3), true);
        int[] about = {12, 1, 3, 13, 0, 0, 0, 0};
        for (int what = 0; what < about.length; what++) {
            due("about " + what + " of a blank", x.about(what), about[what]);
        }
        due("set of a blank", x.set(0, 0), NONE);
        due("nodes of a blank", x.nodes(), NONE);
        due("solution of a blank", x.solution(0, 0, 0), NONE);
        due("runs of its lines", x.run(12, NONE, 0), 0);
        due("the tape stays", x.end(14), 14);
        due("blank", x.blank(1, 12, 1), true);
        due("blank", x.blank(12, 12, 3), true);
        due("level of a blank", x.level(), 0);
        due("done of a blank", x.done(), 1);
    }

    // ---- promises 7 and 8

    private static void aboutAndRun() {
        CellPictures x = loaded("3 2 2;1a2b;;1;1b;1b;");
        int[] about = {3, 2, 2, 5, 5, 0, 0, 0};
        for (int what = 0; what < about.length; what++) {
            due("about " + what, x.about(what), about[what]);
        }
        due("about -1", x.about(-1), NONE);
        due("about 8", x.about(8), NONE);
        x.give(0, 0, 0);
        x.give(0, 0, 1);
        x.give(2, 1, 0);
        due("givens", x.about(5), 2);
        x.give(2, 1, NONE);
        x.give(2, 1, NONE);
        due("givens", x.about(5), 1);
        x.mark(0, 0, 2);
        x.mark(0, 0, 1);
        x.mark(1, 1, 0);
        due("marks", x.about(6), 2);
        x.mark(1, 1, NONE);
        x.mark(1, 0, NONE);
        due("marks", x.about(6), 1);
        due("singles without sets", x.about(7), 0);
        x.fresh();
        due("singles of the first sets", x.about(7), 1);
        x.rule(1);
        due("singles behind a rule", x.about(7), 4);
        due("count of row 0", x.run(0, NONE, 99), 2);
        due("count of row 1", x.run(1, NONE, 0), 0);
        due("length", x.run(0, 1, 0), 2);
        due("colour", x.run(0, 1, 1), 2);
        due("colour", x.run(0, 0, 1), 1);
        due("colour of a column", x.run(4, 0, 1), 2);
        due("no such what", x.run(0, 0, 2), NONE);
        due("no such what", x.run(0, 0, -1), NONE);
        due("no such run", x.run(0, 2, 0), NONE);
        due("no such run", x.run(0, -2, 0), NONE);
        due("no such run", x.run(1, 0, 0), NONE);
        due("no such line", x.run(5, NONE, 0), NONE);
        due("no such line", x.run(-1, NONE, 0), NONE);
        due("no such line", x.run(Integer.MAX_VALUE, 0, 0), NONE);
        due("no such run", x.run(0, Integer.MAX_VALUE, 0), NONE);
    }

    // ---- promises 9 and 10

    private static void giveAndGiven() {
        CellPictures x = loaded("3 2 2;1a2b;;1;1b;1b;");
        due("give", x.give(2, 1, 2), true);
        due("given", x.given(2, 1), 2);
        due("given of another", x.given(1, 1), NONE);
        due("give again", x.give(2, 1, 0), true);
        due("given", x.given(2, 1), 0);
        due("give a high value", x.give(2, 1, 3), false);
        due("give a low value", x.give(2, 1, -2), false);
        due("give no cell", x.give(3, 1, 0), false);
        due("give no cell", x.give(2, 2, 0), false);
        due("give no cell", x.give(-1, 0, 0), false);
        due("give no cell", x.give(0, -1, NONE), false);
        due("given of no cell", x.given(3, 0), NONE);
        due("given of no cell", x.given(0, 2), NONE);
        due("given of no cell", x.given(-1, -1), NONE);
        due("given stays", x.given(2, 1), 0);
        due("take a given", x.give(2, 1, NONE), true);
        due("given", x.given(2, 1), NONE);
        x.fresh();
        x.give(0, 0, 2);
        due("sets stay with a given", x.set(0, 0), 7);
        due("marks stay with a given", x.marked(0, 0), NONE);
        due("line 0 with the given alone", x.level(), 4);
    }

    // ---- promise 11

    private static void freshSets() {
        CellPictures x = loaded("3 2 2;1a2b;;1;1b;1b;");
        due("sets at first", x.set(0, 0), NONE);
        x.level();
        x.search(1, 1);
        x.hint();
        due("sets behind level, search and hint", x.set(0, 0), NONE);
        x.give(1, 1, 2);
        due("fresh", x.fresh(), true);
        sets(x, 0, 7, 7, 7);
        sets(x, 1, 7, 4, 7);
        x.give(1, 1, NONE);
        x.rest();
        due("sets are kept by rest", x.set(1, 1), 4);
        due("fresh", x.fresh(), true);
        sets(x, 1, 7, 7, 7);
        CellPictures one = loaded("1 1 1;1;1;");
        one.fresh();
        due("one colour", one.set(0, 0), 3);
        CellPictures three = new CellPictures();
        three.blank(1, 1, 3);
        three.fresh();
        due("three colours", three.set(0, 0), 15);
    }

    // ---- promises 12 and 13

    private static void ruleAndWays() {
        CellPictures x = loaded("5 1 1;3;;1;1;1;;");
        due("rule without sets", x.rule(0), NONE);
        due("ways without sets", x.ways(0), NONE);
        x.fresh();
        due("ways", x.ways(0), 3);
        due("rule", x.rule(0), 1);
        sets(x, 0, 3, 3, 2, 3, 3);
        due("rule again", x.rule(0), 0);
        due("rule of an empty column", x.rule(1), 1);
        due("ways", x.ways(0), 2);
        due("rule", x.rule(0), 1);
        sets(x, 0, 1, 3, 2, 2, 3);
        due("no such line", x.rule(6), NONE);
        due("no such line", x.rule(-1), NONE);
        due("no such line", x.ways(6), NONE);
        due("no such line", x.ways(-1), NONE);
        x.give(3, 0, 0);
        x.fresh();
        due("ways with a given", x.ways(0), 1);
        due("rule with a given", x.rule(0), 4);
        sets(x, 0, 2, 2, 2, 1, 1);
        x.give(1, 0, 0);
        x.fresh();
        due("no ways", x.ways(0), 0);
        due("it fails", x.rule(0), -2);
        sets(x, 0, 3, 1, 3, 1, 3);
        CellPictures later = loaded("5 1 1;1 1;1;;1;;;");
        later.give(1, 0, 0);
        later.fresh();
        due("ways with a blank", later.ways(0), 4);
        later.give(3, 0, 0);
        later.fresh();
        due("ways with two blanks", later.ways(0), 3);
        later.give(4, 0, 1);
        later.fresh();
        due("ways with a last cell", later.ways(0), 2);
        CellPictures wide = loaded("12 1 1;1 1 1 1;" + times(";", 8) + "1;1;1;1;");
        wide.fresh();
        due("ways of four in twelve", wide.ways(0), 126);
        due("ways of an empty column", wide.ways(1), 1);
        due("ways of a full column", wide.ways(12), 1);
        CellPictures full = loaded("12 1 2;" + times("1a1b", 6) + ";" + times("1;1b;", 6));
        full.fresh();
        due("ways of twelve runs", full.ways(0), 1);
        due("rule of twelve runs", full.rule(0), 12);
        sets(full, 0, 2, 4, 2, 4, 2, 4, 2, 4, 2, 4, 2, 4);
        CellPictures empty = new CellPictures();
        empty.blank(12, 12, 3);
        empty.fresh();
        due("ways of no runs", empty.ways(23), 1);
        due("rule of no runs", empty.rule(23), 12);
        due("set", empty.set(11, 11), 1);
        due("set", empty.set(10, 11), 15);
    }

    private static void rulesOfColours() {
        // unlike colours may touch, like ones may not
        CellPictures x = loaded("4 1 2;1a1b1b;1;1b;;1b;");
        x.fresh();
        due("ways of a b b in four", x.ways(0), 1);
        CellPictures y = loaded("4 1 3;1a1b1c;1;1b;1c;;");
        y.fresh();
        due("ways of a b c in four", y.ways(0), 4);
        due("rule", y.rule(0), 4);
        sets(y, 0, 3, 7, 13, 9);
        CellPictures z = loaded("4 1 2;2b1;1b;1b;1;;");
        z.fresh();
        due("ways of bb a in four", z.ways(0), 3);
        due("rule", z.rule(0), 3);
        sets(z, 0, 5, 4, 7, 3);
    }

    // ---- promise 14

    private static void restOfSets() {
        CellPictures x = loaded(TWO);
        due("rest makes sets", x.rest(), 4);
        sets(x, 0, 3, 3);
        CellPictures y = loaded("3 3 1;1;3;1;1;3;1;");
        due("uses", y.rest(), 12);
        due("all are single", y.about(7), 9);
        sets(y, 0, 1, 2, 1);
        sets(y, 1, 2, 2, 2);
        due("uses at rest", y.rest(), 6);
        CellPictures z = loaded(NO_WAY);
        due("rest fails", z.rest(), -2);
        sets(z, 0, 2, 1, 2);
        sets(z, 1, 2, 2, 3);
        due("it fails again", z.rest(), -2);
        x.give(0, 0, 1);
        due("rest goes on with the sets", x.rest(), 4);
        sets(x, 0, 3, 3);
        x.fresh();
        due("rest from the first sets", x.rest(), 8);
        sets(x, 0, 2, 1);
        sets(x, 1, 1, 2);
    }

    // ---- promise 15

    private static void triesOfSets() {
        CellPictures x = loaded(TWO);
        due("tries makes sets", x.tries(), 0);
        sets(x, 0, 3, 3);
        CellPictures y = loaded(BY_TRYING);
        due("rest", y.rest(), 8);
        due("rest shows nothing", y.about(7), 0);
        due("one value left by trying", y.tries(), 1);
        due("all others left by the line rule", y.about(7), 16);
        due("tries again", y.tries(), 0);
        for (int i = 0; i < 16; i++) {
            due("mark", y.mark(i % 4, i / 4, y.set(i % 4, i / 4) - 1), true);
        }
        due("what was shown is the solution", y.done(), 1);
        due("there is no other", y.search(2, 1000), 1);
        y.give(0, 0, 1 - y.marked(0, 0));
        due("the sets are kept", y.tries(), 0);
        y.fresh();
        due("tries unlike the solution", y.tries(), -2);
    }

    private static void triesThatFail() {
        CellPictures z = loaded(NO_WAY);
        due("tries, if rest fails", z.tries(), -2);
        sets(z, 0, 2, 1, 2);
        due("its level", z.level(), 4);
        CellPictures x = loaded(NOT_BY_TRYING);
        due("rest", x.rest(), 24);
        int shown = x.about(7);
        due("tries", x.tries(), -2);
        due("sets stay as small as they had become", x.about(7) > shown, true);
        due("its level", x.level(), 4);
        due("its solutions", x.search(2, 1000), 0);
        CellPictures y = loaded(NOT_BY_SEARCH);
        due("rest", y.rest(), 40);
        due("tries", y.tries(), 19);
        due("search", y.search(2, 400), 0);
        due("nodes", y.nodes(), 250);
        due("its level", y.level(), 4);
    }

    // ---- promise 16

    private static void setOfCells() {
        CellPictures x = new CellPictures();
        x.blank(2, 3, 3);
        due("no sets", x.set(0, 0), NONE);
        x.give(1, 2, 3);
        x.fresh();
        due("set of a given", x.set(1, 2), 8);
        due("set of another", x.set(0, 2), 15);
        due("no such cell", x.set(2, 0), NONE);
        due("no such cell", x.set(0, 3), NONE);
        due("no such cell", x.set(-1, 0), NONE);
        due("no such cell", x.set(0, -1), NONE);
        x.draw();
        due("no sets behind draw", x.set(0, 0), NONE);
    }

    // ---- promises 17, 18 and 19

    private static void searchAndNodes() {
        CellPictures x = loaded("3 3 1;1;1;1;1;1;1;");
        x.fresh();
        x.rule(0);
        due("all six", x.search(50, 1000), 6);
        int all = x.nodes();
        due("nodes of six", all, 10);
        due("the first two alone are kept", x.solution(2, 0, 0), NONE);
        solution(x, 0, 0, 0, 0, 1);
        solution(x, 0, 1, 0, 1, 0);
        solution(x, 0, 2, 1, 0, 0);
        solution(x, 1, 0, 0, 0, 1);
        solution(x, 1, 1, 1, 0, 0);
        solution(x, 1, 2, 0, 1, 0);
        due("just enough nodes", x.search(50, 10), 6);
        due("one too few", x.search(50, 9), -2);
        due("nodes of a spent one", x.nodes(), 9);
        solution(x, 1, 0, 0, 0, 1);
        due("six are enough", x.search(6, 10), 6);
        due("three", x.search(3, 1000), 3);
        due("nodes of three", x.nodes() < all, true);
        sets(x, 0, 3, 3, 3);
        x.give(1, 1, 1);
        due("two are left", x.search(50, 1000), 2);
        due("nodes", x.nodes(), 2);
        x.give(0, 0, 1);
        due("one is left", x.search(50, 0), 1);
        due("nodes", x.nodes(), 0);
        x.give(0, 1, 1);
        due("none is left", x.search(50, 0), 0);
        due("nodes", x.nodes(), 0);
        due("solution", x.solution(0, 0, 0), NONE);
        due("the sets stay", x.set(1, 1), 3);
        CellPictures y = loaded(TWO);
        y.search(1, 9);
        due("no sets by a search", y.set(0, 0), NONE);
    }

    private static void searchLimits() {
        CellPictures x = loaded(TWO);
        int[][] others = {{0, 5}, {51, 5}, {-1, 5}, {1, -1}, {1, 1001}, {Integer.MAX_VALUE, 1}, {1, Integer.MIN_VALUE}};
        for (int[] o : others) {
            due("search of others", x.search(o[0], o[1]), NONE);
            due("nodes ahead of any", x.nodes(), NONE);
        }
        due("the most", x.search(50, 1000), 2);
        for (int[] o : others) {
            due("search of others", x.search(o[0], o[1]), NONE);
            due("nodes of the latest", x.nodes(), 2);
            due("solution of the latest", x.solution(1, 0, 0), 1);
        }
        x.give(0, 0, 0);
        due("nodes stay with a given", x.nodes(), 2);
        x.blank(2, 2, 1);
        due("nodes of a new puzzle", x.nodes(), NONE);
        CellPictures wide = new CellPictures();
        StringBuilder ones = new StringBuilder("12 12 1;");
        for (int i = 0; i < 24; i++) {
            ones.append("1;");
        }
        feedText(wide, ones.toString());
        due("load", wide.load(), 24);
        due("fifty of very many", wide.search(50, 1000), 50);
        // the first row's cells are blank one by one till the last is forced, and so on: 11 + 10 + .. + 1
        due("the first of very many", wide.search(1, 1000), 1);
        due("nodes of the first", wide.nodes(), 66);
        due("spent ahead of it", wide.search(1, 65), -2);
        due("none was found", wide.solution(0, 0, 0), NONE);
        due("nodes", wide.nodes(), 65);
    }

    private static void solutionsKept() {
        CellPictures x = loaded(TWO);
        due("two", x.search(50, 100), 2);
        solution(x, 0, 0, 0, 1);
        solution(x, 1, 0, 1, 0);
        due("no third", x.solution(2, 0, 0), NONE);
        due("no such", x.solution(-1, 0, 0), NONE);
        due("no cell", x.solution(0, 2, 0), NONE);
        due("no cell", x.solution(0, 0, 2), NONE);
        due("no cell", x.solution(0, -1, 0), NONE);
        due("no cell", x.solution(1, 0, -1), NONE);
        x.level();
        x.hint();
        x.fresh();
        x.tries();
        due("it stays", x.solution(1, 0, 0), 1);
        due("a wrong give", x.give(0, 0, 2), false);
        due("it stays", x.solution(1, 0, 0), 1);
        due("give", x.give(0, 0, 1), true);
        due("given since", x.solution(0, 0, 0), NONE);
        due("given since", x.wrong(), NONE);
        x.search(1, 10);
        due("searched again", x.solution(0, 0, 0), 1);
        due("only one", x.solution(1, 0, 0), NONE);
        x.give(0, 0, NONE);
        due("taken since", x.solution(0, 0, 0), NONE);
        x.search(1, 10);
        x.draw();
        due("drawn since", x.solution(0, 0, 0), NONE);
    }

    // ---- promise 20

    private static final String[] BY_SEARCH = {".##.......", "..##.#.##.", ".#..#....#", "...#.#.##.", ".......#..",
        "..........", ".........#", ".##...##..", "..........", ".....#..##"};
    private static final String[] SPENT = {"#.....#...", ".....#....", "...#.#....", "##...#####", "....#.##..",
        ".#.#......", "#.##....#.", ".#......##", ".#.##.....", "..##...##."};
    private static final String[] SPENT_LATER = {"......#.#.", ".....#....", "##.....##.", "...#......", "..##.#..#.",
        "###....#..", "...##.....", "#..#....#.", "#.........", ".#...#.#.#"};

    private static void levels() {
        due("level 0", loaded("3 3 1;1;3;1;1;3;1;").level(), 0);
        due("level 1", loaded(BY_TRYING).level(), 1);
        CellPictures two = drawn(1, BY_SEARCH);
        due("level 2", two.level(), 2);
        due("it has one solution", two.search(2, 400), 1);
        due("found by trying cells out", two.nodes() > 0, true);
        due("level 3", loaded(TWO).level(), 3);
        due("level 4", loaded(NO_WAY).level(), 4);
        CellPictures five = drawn(1, SPENT);
        due("level 5", five.level(), 5);
        due("it is spent", five.search(2, 400), -2);
        CellPictures x = loaded(TWO);
        x.fresh();
        x.give(0, 0, 1);
        x.search(2, 5);
        due("level with a given", x.level(), 0);
        sets(x, 0, 3, 3);
        due("solution stays", x.solution(0, 0, 0), 1);
        due("nodes stay", x.nodes(), 0);
        due("givens stay", x.about(5), 1);
        x.give(1, 1, 0);
        due("level with two givens", x.level(), 4);
    }

    // ---- promises 21, 22 and 23

    private static void marksAndDone() {
        CellPictures x = loaded("3 2 2;1a2b;;1;1b;1b;");
        due("marked at first", x.marked(0, 0), NONE);
        due("done at first", x.done(), 0);
        due("mark", x.mark(0, 0, 1), true);
        due("mark", x.mark(1, 0, 2), true);
        due("mark", x.mark(2, 0, 1), true);
        due("marked", x.marked(1, 0), 2);
        due("done", x.done(), 0);
        due("mark again", x.mark(2, 0, 2), true);
        due("done without the blanks", x.done(), 1);
        due("mark a blank", x.mark(2, 1, 0), true);
        due("marked", x.marked(2, 1), 0);
        due("done", x.done(), 1);
        due("no such value", x.mark(0, 0, 3), false);
        due("no such value", x.mark(0, 0, -2), false);
        due("no such cell", x.mark(3, 0, 1), false);
        due("no such cell", x.mark(0, 2, NONE), false);
        due("no such cell", x.mark(-1, 0, 1), false);
        due("marked of no cell", x.marked(3, 0), NONE);
        due("marked of no cell", x.marked(0, -1), NONE);
        due("the mark stays", x.marked(0, 0), 1);
        x.give(0, 1, 0);
        due("done with a given", x.done(), 1);
        x.give(0, 1, 1);
        due("done unlike a given", x.done(), 0);
        x.give(0, 1, NONE);
        x.mark(0, 1, 1);
        due("done with too much", x.done(), 0);
        x.mark(0, 1, NONE);
        due("not marked any more", x.marked(0, 1), NONE);
        due("done", x.done(), 1);
        x.give(0, 0, 2);
        due("done unlike a given of row 0", x.done(), 0);
        CellPictures z = loaded("3 1 2;2b;1b;1b;;");
        z.mark(0, 0, 2);
        due("done with a short run", z.done(), 0);
        z.mark(1, 0, 1);
        due("done with a run more", z.done(), 0);
        z.mark(0, 0, 1);
        due("done in another colour", z.done(), 0);
        z.mark(0, 0, 2);
        z.mark(1, 0, 2);
        due("done", z.done(), 1);
        // the rows are right, the columns are not
        CellPictures y = loaded(TWO);
        y.mark(0, 0, 1);
        y.mark(0, 1, 1);
        due("rows alone", y.done(), 0);
        y.mark(0, 1, 0);
        y.mark(1, 1, 1);
        due("done", y.done(), 1);
    }

    // ---- promise 24

    private static void wrongMarks() {
        CellPictures x = loaded("3 2 2;1a2b;;1;1b;1b;");
        due("ahead of a search", x.wrong(), NONE);
        x.search(1, 0);
        due("no marks", x.wrong(), 0);
        x.mark(0, 0, 2);
        x.mark(1, 0, 2);
        x.mark(2, 0, 0);
        x.mark(2, 1, 0);
        due("two are wrong", x.wrong(), 2);
        x.mark(0, 0, 1);
        due("one is wrong", x.wrong(), 1);
        x.give(2, 1, 0);
        due("given since", x.wrong(), NONE);
        x.give(2, 1, 1);
        due("nothing is found", x.search(1, 9), 0);
        due("no solution", x.wrong(), NONE);
    }

    // ---- promise 25

    private static void hints() {
        CellPictures x = loaded("3 2 2;1a2b;;1;1b;1b;");
        due("row 0", x.hint(), 1000);
        x.mark(0, 0, 1);
        due("row 0, the next cell", x.hint(), 2001);
        x.give(1, 0, 2);
        due("row 0, the next cell", x.hint(), 2002);
        x.mark(2, 0, 2);
        due("row 1", x.hint(), 10012);
        x.mark(0, 1, 0);
        x.mark(2, 1, 0);
        due("row 1, the last cell", x.hint(), 10013);
        x.mark(1, 1, 0);
        due("nothing", x.hint(), NONE);
        x.mark(1, 0, 1);
        due("a given comes ahead of a mark", x.hint(), NONE);
        x.give(1, 0, NONE);
        due("row 0 fails", x.hint(), -2);
        x.mark(1, 0, 2);
        x.mark(1, 1, 1);
        due("row 1 fails", x.hint(), -3);
        CellPictures y = loaded(NO_WAY);
        y.give(0, 0, 1);
        y.give(1, 0, 0);
        y.give(2, 0, 1);
        due("row 1", y.hint(), 11013);
        y.mark(1, 1, 1);
        due("each line by itself", y.hint(), 21012);
        y.mark(0, 1, 1);
        due("row 1", y.hint(), 10014);
        y.mark(2, 1, 0);
        due("column 1 fails", y.hint(), -5);
        CellPictures last = new CellPictures();
        StringBuilder text = new StringBuilder("12 12 3;" + times(";", 11) + "1c;" + times(";", 11) + "1c;");
        feedText(last, text.toString());
        due("load", last.load(), 2);
        for (int i = 0; i < 132; i++) {
            last.mark(i % 12, i / 12, 0);
        }
        due("the first column", last.hint(), 120000 + 132);
        for (int i = 0; i < 10; i++) {
            last.mark(i, 11, 0);
        }
        due("the last but one", last.hint(), 220000 + 142);
        last.mark(10, 11, 0);
        due("the last", last.hint(), 110000 + 3000 + 143);
    }

    // ---- promise 26

    private static void drawing() {
        CellPictures x = new CellPictures();
        x.blank(4, 3, 3);
        markRows(x, "aabb", "c..c", ".cc.");
        x.mark(1, 1, 0);
        x.give(0, 0, 3);
        x.fresh();
        x.search(1, 1);
        due("draw", x.draw(), 13);
        due("runs", x.about(4), 13);
        due("givens go", x.about(5), 0);
        due("given goes", x.given(0, 0), NONE);
        due("marks stay", x.about(6), 9);
        due("sets go", x.set(0, 0), NONE);
        due("nodes go", x.nodes(), NONE);
        due("done", x.done(), 1);
        int[][] runs = {{0, 2, 1}, {0, 2, 2}, {1, 1, 3}, {1, 1, 3}, {2, 2, 3}, {3, 1, 1}, {3, 1, 3}, {4, 1, 1},
            {4, 1, 3}, {5, 1, 2}, {5, 1, 3}, {6, 1, 2}, {6, 1, 3}};
        int k = 0;
        for (int i = 0; i < runs.length; i++) {
            k = i > 0 && runs[i][0] == runs[i - 1][0] ? k + 1 : 0;
            due("length of run " + i, x.run(runs[i][0], k, 0), runs[i][1]);
            due("colour of run " + i, x.run(runs[i][0], k, 1), runs[i][2]);
            due("no run behind", x.run(runs[i][0], k + 1, 0) >= 0, i + 1 < runs.length && runs[i + 1][0] == runs[i][0]);
        }
        x.mark(0, 0, NONE);
        due("draw again", x.draw(), 12);
        CellPictures full = new CellPictures();
        full.blank(12, 12, 2);
        for (int i = 0; i < 144; i++) {
            full.mark(i % 12, i / 12, 1 + (i % 12 + i / 12) % 2);
        }
        due("the most runs", full.draw(), 288);
        due("its level", full.level(), 0);
    }

    // ---- promise 27

    private static void mending() {
        CellPictures x = drawn(1, "#..", ".#.", "..#");
        x.fresh();
        x.mark(1, 0, 0);
        due("search", x.search(50, 100), 6);
        // two by two: 001 010 100 and 001 100 010; .. and 010 001 100; .. and 100 001 010; 100 .. and the marks
        due("mend", x.mend(), 4);
        due("givens", x.about(5), 4);
        due("given", x.given(0, 1), 0);
        due("given", x.given(1, 0), 0);
        due("given", x.given(0, 0), 1);
        due("given", x.given(1, 1), 1);
        due("solution is as if givens were told", x.solution(0, 0, 0), NONE);
        due("nodes stay", x.nodes(), 10);
        sets(x, 0, 3, 3, 3);
        due("marks stay", x.about(6), 4);
        due("one solution", x.search(2, 400), 1);
        due("mend again", x.mend(), 0);
        due("solution stays if none was given", x.solution(0, 0, 0), 1);
        x.mark(0, 0, 0);
        due("the marks are no solution", x.mend(), NONE);
        due("givens stay", x.about(5), 4);
        x.mark(0, 0, 1);
        x.give(0, 1, 1);
        due("the marks are unlike a given", x.mend(), NONE);
    }

    private static void mendingSpent() {
        CellPictures at0 = drawn(1, SPENT);
        at0.search(2, 1000);
        int ahead = at0.solution(0, 0, 0);
        due("mend is spent", at0.mend(), -2);
        due("nothing was given", at0.about(5), 0);
        due("solution stays", at0.solution(0, 0, 0), ahead);
        CellPictures later = drawn(1, SPENT_LATER);
        due("two are found at first", later.search(2, 400), 2);
        due("mend is spent", later.mend(), -2);
        due("what was given stays", later.about(5), 6);
        due("solution", later.solution(0, 0, 0), NONE);
        due("it is spent still", later.search(2, 400), -2);
    }
}
