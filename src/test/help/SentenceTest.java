/** What the tests of sentences share: puzzles, numbers, and how an answer is asked for. */
public abstract class SentenceTest {
    protected static final int NONE = Look.NONE;
    protected static final int LEAST = Integer.MIN_VALUE;
    protected static final int MOST = Integer.MAX_VALUE;
    /** 12 times it is 0 by wrap-around. */
    protected static final int WRAPS = 1 << 30;

    // ---- texts

    /** Two SOLUTIONS: .1/1. and 1./.1 */
    protected static final String TWO = "2 2 1;1;1;1;1;";
    /** Of each row and column one cell: six SOLUTIONS. */
    protected static final String SIX = "3 3 1;1;1;1;1;1;1;";
    /** Row 0 is 122, row 1 is blank. */
    protected static final String FLAG = "3 2 2;1a2b;;1;1b;1b;";
    /** Column 1 has no WAY as soon as row 0 told its cells. */
    protected static final String NO_WAY = "3 2 1;1 1;2;2;2;;";
    /** REST is content with it, TRYING FAILS. */
    protected static final String NO_TRYING = "4 4 1;1 1;1 1;1 1;2;1 1;2;1;3;";
    /** TRYING is content with it, SEARCH finds nothing. */
    protected static final String NO_SEARCH = "10 10 1;1 1;1 2 1;1 1 4;1 1;1 1;1;2 1;1 2;1 2;2 1;"
            + "1;2 1;1;2 2;3 1;2 2;1;1 1 1 1;2 1 1;2 1;";

    // ---- pictures

    /** Nothing of it is told by REST, all by TRYING. */
    protected static final String BY_TRYING = ".1/1./1./.1";
    /** TRYING does not tell its one SOLUTION. */
    protected static final String BY_SEARCH = ".11......./..11.1.11./.1..1....1/...1.1.11./.......1../"
            + "........../.........1/.11...11../........../.....1..11";
    /** Two SOLUTIONS are found by the 400th NODE. */
    protected static final String BY_400_NODES = ".1..111../....1.11./..1....../..1...1../......1../"
            + "1......1./....11.../...11.111/11...1.../1..1...11";
    /** The second SOLUTION would be found by the 401st NODE. */
    protected static final String BY_401_NODES = ".1....1../..1.1..11/...1...../..1.1..1./...11.1../"
            + ".11....../11.1...../.......11/1...11.../.11..11..";
    /** 400 NODES show no SOLUTION. */
    protected static final String NONE_BY_400_NODES = "1..1.1../.11...1./..1.1.../1..1...1/.11...../"
            + "..1111../....1.11/......11";
    /** 1000 NODES are not enough for two SOLUTIONS. */
    protected static final String ABOVE_1000_NODES = "11.1..../....1.../.....1../.1....../1....1../1......./"
            + "..1.11../....111./...11..1/.111....";
    /** 400 NODES show two SOLUTIONS at first, and not any more with six cells GIVEN. */
    protected static final String SPENT_LATER = "......1.1./.....1..../11.....11./...1....../..11.1..1./"
            + "111....1../...11...../1..1....1./1........./.1...1.1.1";

    protected static void due(String what, long got, long want) {
        Sentences.due(what, got, want);
    }

    protected static void due(String what, boolean got, boolean want) {
        Sentences.due(what, got, want);
    }

    protected static void due(String what, String got, String want) {
        Sentences.due(what, got, want);
    }
}
