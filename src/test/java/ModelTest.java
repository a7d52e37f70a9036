import java.nio.charset.StandardCharsets;
import java.util.ArrayList;
import java.util.Arrays;
import java.util.Collections;
import java.util.HashMap;
import java.util.List;
import java.util.Map;
import java.util.Random;
import java.util.function.IntUnaryOperator;
import java.util.function.LongSupplier;
import java.util.regex.Matcher;
import java.util.regex.Pattern;

/**
 * Runs of calls by chance (always the same ones), each answer compared with that of a second, slow
 * writing of the document: rows of VALUES are written out and read, TRYING and SEARCH call themselves.
 */
public final class ModelTest {
    private static final int NONE = -1;
    private static final int SHOWN = 20;
    private static int wrong = 0;
    private static long calls = 0;

    private final Random chance;
    private final CellPictures real = new CellPictures();
    private final Model model = new Model();
    private final List<String> log = new ArrayList<>();
    private final int run;
    private final int most;
    private final int mostColours;

    private ModelTest(int run, int most, int mostColours) {
        this.run = run;
        this.most = most;
        this.mostColours = mostColours;
        chance = new Random(7919L * run + most);
    }

    public static void main(String[] args) {
        int factor = args.length > 0 ? Integer.parseInt(args[0]) : 1;
        int run = 0;
        for (int i = 0; i < 1000 * factor; i++) {
            new ModelTest(run++, 4, 1 + i % 3).play(200);
        }
        for (int i = 0; i < 500 * factor; i++) {
            new ModelTest(run++, 7, 1 + i % 3).play(150);
        }
        for (int i = 0; i < 40 * factor; i++) {
            new ModelTest(run++, 12, 1 + i % 3).play(60);
        }
        for (String[] picture : HARD) {
            new ModelTest(run++, 12, 1).playHard(picture);
        }
        for (String picture : AT_BOUNDARIES) {
            new ModelTest(run++, 12, 1).playHard(picture.split("/"));
        }
        for (String text : HARD_TEXTS) {
            ModelTest test = new ModelTest(run++, 12, 1);
            test.playTape(text, false);
            test.playDear();
        }
        for (int i = 0; i < 40 * factor; i++) {
            new ModelTest(run++, 12, 1 + i % 3).playHard(null);
        }
        System.out.println(calls + " calls compared: "
                + (wrong == 0 ? "all answers are as due" : wrong + " answers are not as due"));
        if (wrong != 0) {
            System.exit(1);
        }
    }

    private void due(String call, LongSupplier got, LongSupplier want) {
        calls++;
        long a = got.getAsLong();
        long b = want.getAsLong();
        log.add(call + " -> " + a);
        if (a != b) {
            wrong++;
            if (wrong <= SHOWN) {
                System.out.println("run " + run + ": " + call + " answered " + a + ", due is " + b
                        + "; the calls: " + log);
            }
        }
    }

    private static long bit(boolean b) {
        return b ? 1 : 0;
    }

    private int near(int least, int top) {
        return least - 1 + chance.nextInt(top - least + 3);
    }

    private int upTo(int top) {
        return chance.nextInt(top + 1);
    }

    /** Three with one solution that TRYING doesn't show; two with which mend() and LEVEL are SPENT. */
    private static final String[][] HARD = {
        {".##.......", "..##.#.##.", ".#..#....#", "...#.#.##.", ".......#..", "..........", ".........#",
            ".##...##..", "..........", ".....#..##"},
        {".#.......#", "....###...", ".#.#.....#", "......####", "....#.....", ".#..####..", "...##.....",
            "...##...#.", "#....##...", "#.#..#..#."},
        {"....##.#...#", "....#....#..", ".#...#...##.", "..####....#.", "#..###.##.#.", "#..........#",
            ".##....#....", "..#..#....##", "...###.##..#", ".#.#.##.....", "#...#..#.#.#", "#....#...#.."},
        {"......#.#.", ".....#....", "##.....##.", "...#......", "..##.#..#.", "###....#..", "...##.....",
            "#..#....#.", "#.........", ".#...#.#.#"},
        {"#.....#...", ".....#....", "...#.#....", "##...#####", "....#.##..", ".#.#......", "#.##....#.",
            ".#......##", ".#.##.....", "..##...##."},
    };

    /** The pictures of the tests of sentences, so that what is due there is not the class's word alone. */
    private static final String[] AT_BOUNDARIES = {SentenceTest.BY_TRYING, SentenceTest.BY_SEARCH,
        SentenceTest.BY_400_NODES, SentenceTest.BY_401_NODES, SentenceTest.NONE_BY_400_NODES,
        SentenceTest.ABOVE_1000_NODES, SentenceTest.SPENT_LATER, "1...1/.1..1/..11.", "..11../111.../.1..1.",
        "1..1/..../..1./.1.1/1.1./11..", "1..1/.1../.1.2/2.1./.22.", ".1./1../.../.1./..1/..1",
        "...11/....1/11.../.1.../..1../..1..", ".2./2.1/.1.", "..1/1../.1.", "1../.1./..1", ".1./1.1", "1./1./.1"};

    /** Without a solution: TRYING shows it; only SEARCH shows it. */
    private static final String[] HARD_TEXTS = {
        "4 4 1;1 1;1 1;1 1;2;1 1;2;1;3;",
        "10 10 1;1 1;1 2 1;1 1 4;1 1;1 1;1;2 1;1 2;1 2;2 1;1;2 1;1;2 2;3 1;2 2;1;1 1 1 1;2 1 1;2 1;",
    };

    /** A picture, or one by chance: the dear calls on its puzzle, and on the same with other columns. */
    private void playHard(String[] rows) {
        int c = rows == null ? mostColours : String.join("", rows).contains("2") ? 2 : 1;
        int[][] picture = new int[rows == null ? 10 + upTo(2) : rows.length][rows == null ? 12 : rows[0].length()];
        int filled = 2 + upTo(3);
        for (int y = 0; y < picture.length; y++) {
            for (int x = 0; x < picture[y].length; x++) {
                if (rows != null) {
                    picture[y][x] = Math.max(".12".indexOf(rows[y].charAt(x)), rows[y].charAt(x) == '#' ? 1 : 0);
                } else if (chance.nextInt(10) < filled) {
                    picture[y][x] = 1 + upTo(c - 1);
                }
            }
        }
        playTape(textOf(picture, c, order(picture[0].length, true), 0), false);
        playDear();
        playTape(textOf(picture, c, order(picture[0].length, false), 0), false);
        playDear();
        for (int y = 0; y < picture.length; y++) {
            for (int x = 0; x < picture[y].length; x++) {
                if (picture[y][x] != 0) {
                    playMark(x, y, picture[y][x]);
                }
            }
        }
        due("done()", () -> real.done(), () -> model.done());
        due("mend()", () -> real.mend(), () -> model.mend());
        due("about(5)", () -> real.about(5), () -> model.about(5));
        due("fresh()", () -> bit(real.fresh()), () -> bit(model.fresh()));
        playDear();
    }

    private void playDear() {
        due("level()", () -> real.level(), () -> model.level());
        due("rest()", () -> real.rest(), () -> model.rest());
        compareAll();
        due("tries()", () -> real.tries(), () -> model.tries());
        for (int nodes : new int[] {1000, 401, 399, 400}) {
            due("search(2, " + nodes + ")", () -> real.search(2, nodes), () -> model.search(2, nodes));
            due("nodes()", () -> real.nodes(), () -> model.nodes);
        }
        compareAll();
    }

    // ---- what is played

    private void play(int steps) {
        if (chance.nextInt(10) > 0) {
            playText(0);
        }
        for (int i = 0; i < steps && log.size() < 480; i++) {
            int kind = chance.nextInt(100);
            if (kind < 2) {
                playText(0);
            } else if (kind < 5) {
                playText(1 + upTo(1));
            } else if (kind < 6) {
                playBlank(near(1, 12), near(1, 12), near(1, 3));
            } else if (kind < 8) {
                playPicture();
            } else if (kind < 62) {
                playReading();
            } else {
                playWork();
            }
        }
    }

    private void playBlank(int w, int h, int c) {
        if (w > most || h > most) {
            return;
        }
        due("blank(" + w + ", " + h + ", " + c + ")", () -> bit(real.blank(w, h, c)),
                () -> bit(model.blank(w, h, c)));
    }

    private int side() {
        return Math.max(1 + upTo(most - 1), chance.nextBoolean() ? 1 : 1 + upTo(most - 1));
    }

    private void playPicture() {
        int w = side();
        int h = side();
        if (w * h > 70) {
            return;
        }
        playBlank(w, h, 1 + upTo(mostColours - 1));
        int blanks = 1 + upTo(2);
        for (int y = 0; y < h; y++) {
            for (int x = 0; x < w; x++) {
                int v = chance.nextInt(4) < blanks ? 0 : 1 + upTo(model.c - 1);
                if (v != 0 || chance.nextInt(8) == 0) {
                    playMark(x, y, v);
                }
            }
        }
        due("draw()", () -> real.draw(), () -> model.draw());
    }

    private void playMark(int x, int y, int v) {
        due("mark(" + x + ", " + y + ", " + v + ")", () -> bit(real.mark(x, y, v)), () -> bit(model.mark(x, y, v)));
    }

    private void playText(int faults) {
        playTape(someText(faults), faults > 0 && chance.nextInt(12) == 0);
    }

    private void playTape(String text, boolean endsAnywhere) {
        int fed = 0;
        boolean fits = true;
        while (fed < text.length() && fits) {
            int[] n = new int[5];
            for (int i = 0; i < 20; i++) {
                int b = fed + i < text.length() ? text.charAt(fed + i) : ' ';
                n[i / 4] |= b << 24 - 8 * (i % 4);
            }
            int before = model.tape.length();
            due("feed(" + Arrays.toString(n) + ")", () -> real.feed(n[0], n[1], n[2], n[3], n[4]),
                    () -> model.feed(n));
            fits = model.tape.length() > before;
            fed += 20;
        }
        int end = endsAnywhere ? near(0, 40) : text.length();
        due("end(" + end + ")", () -> real.end(end), () -> model.end(end));
        due("load()", () -> real.load(), () -> model.load());
        due("fault()", () -> real.fault(), () -> model.fault);
    }

    private String someText(int faults) {
        int w = side();
        int h = side();
        int c = 1 + upTo(mostColours - 1);
        int[][] picture = new int[h][w];
        int blanks = 1 + chance.nextInt(5);
        for (int[] row : picture) {
            for (int x = 0; x < w; x++) {
                row[x] = chance.nextInt(7) < blanks ? 0 : 1 + upTo(c - 1);
            }
        }
        return textOf(picture, c, order(w, chance.nextInt(3) == 0), faults);
    }

    /** In another order of columns the sums are right, but mostly there is no solution. */
    private List<Integer> order(int w, boolean isOther) {
        List<Integer> order = new ArrayList<>();
        for (int x = 0; x < w; x++) {
            order.add(x);
        }
        if (isOther) {
            Collections.shuffle(order, chance);
        }
        return order;
    }

    private String textOf(int[][] picture, int c, List<Integer> order, int faults) {
        int h = picture.length;
        int w = picture[0].length;
        List<String> parts = new ArrayList<>();
        parts.addAll(Arrays.asList("" + w, " ", "" + h, " ", "" + c, ";"));
        for (int line = 0; line < w + h; line++) {
            int[] values = new int[line < h ? w : h];
            for (int i = 0; i < values.length; i++) {
                values[i] = line < h ? picture[line][i] : picture[i][order.get(line - h)];
            }
            for (int[] r : Model.read(values)) {
                parts.add((r[0] < 10 && chance.nextInt(6) == 0 ? "0" : "") + r[0]);
                parts.add(r[1] == 1 && chance.nextBoolean() ? " " : "" + (char) ('a' + r[1] - 1));
            }
            parts.add(";");
        }
        for (int i = 0; i < faults; i++) {
            spoil(parts);
        }
        StringBuilder text = new StringBuilder();
        for (String part : parts) {
            text.append(part);
            if (!part.isEmpty() && !Character.isDigit(part.charAt(0)) && chance.nextInt(8) == 0) {
                text.append(chance.nextBoolean() ? " " : "\n");
            }
        }
        return text.toString();
    }

    private void spoil(List<String> parts) {
        String[] stuff = {"0", "00", "1", "2", "12", "13", "99", "123", "a", "b", "c", "d", ";", " ", "\n", "\t",
            "\u00ff", "\u0080", "\0", "A", "-", "1b", "1c", "1 1 1 1 1 1 1 1 1 1 1 1 1"};
        int at = chance.nextInt(parts.size());
        String thing = stuff[chance.nextInt(stuff.length)];
        switch (chance.nextInt(4)) {
            case 0: parts.add(at, thing); break;
            case 1: parts.set(at, thing); break;
            case 2: parts.remove(at); break;
            default: parts.add(thing); break;
        }
        if (parts.isEmpty()) {
            parts.add(" ");
        }
    }

    private void playReading() {
        int x = chance.nextInt(4) == 0 ? near(0, Math.max(0, model.w - 1)) : upTo(Math.max(0, model.w - 1));
        int y = chance.nextInt(4) == 0 ? near(0, Math.max(0, model.h - 1)) : upTo(Math.max(0, model.h - 1));
        int v = near(NONE, Math.max(1, model.c));
        int line = near(0, Math.max(0, model.w + model.h - 1));
        int k = near(NONE, 3);
        int what = near(0, 2);
        int n = near(0, 7);
        switch (chance.nextInt(16)) {
            case 0: due("about(" + n + ")", () -> real.about(n), () -> model.about(n)); break;
            case 1: due("run(" + line + ", " + k + ", " + what + ")", () -> real.run(line, k, what),
                    () -> model.run(line, k, what)); break;
            case 2: case 3: if (chance.nextInt(3) == 0) {
                    due("give(" + x + ", " + y + ", " + v + ")", () -> bit(real.give(x, y, v)),
                            () -> bit(model.give(x, y, v)));
                } break;
            case 4: due("given(" + x + ", " + y + ")", () -> real.given(x, y), () -> model.given(x, y)); break;
            case 5: due("ways(" + line + ")", () -> real.ways(line), () -> model.ways(line)); break;
            case 6: case 7: due("set(" + x + ", " + y + ")", () -> real.set(x, y), () -> model.set(x, y)); break;
            case 8: due("nodes()", () -> real.nodes(), () -> model.nodes); break;
            case 9: case 10: due("solution(" + k + ", " + x + ", " + y + ")", () -> real.solution(k, x, y),
                    () -> model.solution(k, x, y)); break;
            case 11: playMark(x, y, v); break;
            case 12: due("marked(" + x + ", " + y + ")", () -> real.marked(x, y), () -> model.marked(x, y)); break;
            case 13: due("done()", () -> real.done(), () -> model.done()); break;
            case 14: due("wrong()", () -> real.wrong(), () -> model.wrong()); break;
            default: due("fault()", () -> real.fault(), () -> model.fault); break;
        }
    }

    private void playWork() {
        int line = near(0, Math.max(0, model.w + model.h - 1));
        int n = chance.nextInt(8) == 0 ? near(1, 50) : 1 + upTo(3);
        int nodes = chance.nextInt(8) == 0 ? NONE + 1002 * upTo(1) : upTo(chance.nextBoolean() ? 6 : 60);
        switch (chance.nextInt(12)) {
            case 0: due("fresh()", () -> bit(real.fresh()), () -> bit(model.fresh())); break;
            case 1: case 2: case 3:
                due("rule(" + line + ")", () -> real.rule(line), () -> model.rule(line)); break;
            case 4: due("rest()", () -> real.rest(), () -> model.rest()); break;
            case 5: due("tries()", () -> real.tries(), () -> model.tries()); break;
            case 6: case 7: due("search(" + n + ", " + nodes + ")", () -> real.search(n, nodes),
                    () -> model.search(n, nodes)); break;
            case 8: due("level()", () -> real.level(), () -> model.level()); break;
            case 9: due("hint()", () -> real.hint(), () -> model.hint()); break;
            case 10: if (chance.nextInt(4) == 0) {
                    due("draw()", () -> real.draw(), () -> model.draw());
                } break;
            default: due("mend()", () -> real.mend(), () -> model.mend()); break;
        }
        if (chance.nextInt(4) == 0) {
            compareAll();
        }
    }

    /** All SETS and SOLUTIONS, a number for each row: the answers of many calls in one line of the log. */
    private void compareAll() {
        for (int y = 0; y < model.h; y++) {
            int row = y;
            due("the sets of row " + y, () -> sum(x -> real.set(x, row)), () -> sum(x -> model.set(x, row)));
            for (int k = 0; k < 2; k++) {
                int which = k;
                due("solution " + k + " in row " + y, () -> sum(x -> real.solution(which, x, row)),
                        () -> sum(x -> model.solution(which, x, row)));
            }
        }
    }

    private long sum(IntUnaryOperator answerOfCell) {
        long sum = 0;
        for (int x = 0; x < model.w; x++) {
            sum = 20 * sum + answerOfCell.applyAsInt(x);
        }
        return sum;
    }

    // ---- the slow writing of the document

    private static final class Model {
        private String tape = "";
        private int fault = 0;
        private int w = 0;
        private int h = 0;
        private int c = 0;
        private List<List<int[]>> lines = new ArrayList<>();
        private int[][] givens;
        private int[][] marks;
        private int[][] sets;
        private List<int[][]> found = new ArrayList<>();
        private boolean stands = false;
        private int nodes = NONE;

        /** By a LINE and its SETS: what the LINE RULE leaves, an empty row if it FAILS. */
        private final Map<String, int[]> known = new HashMap<>();

        // the search at work
        private int wanted;
        private int allowed;
        private int used;
        private boolean spent;
        private List<int[][]> solutions;

        int feed(int[] numbers) {
            if (tape.length() + 20 > 900) {
                return NONE;
            }
            byte[] bytes = new byte[20];
            for (int i = 0; i < 20; i++) {
                bytes[i] = java.nio.ByteBuffer.allocate(4).putInt(numbers[i / 4]).array()[i % 4];
            }
            tape += new String(bytes, StandardCharsets.ISO_8859_1);
            return tape.length();
        }

        int end(int n) {
            if (n < 0 || n > tape.length()) {
                return NONE;
            }
            tape = tape.substring(0, n);
            return n;
        }

        int load() {
            String text = tape;
            tape = "";
            TextModel read = new TextModel(text);
            fault = read.kind;
            if (read.kind != 0) {
                return -1 - read.place;
            }
            begin(read.sizes[0], read.sizes[1], read.sizes[2], read.lines);
            marks = grid(NONE);
            return runs();
        }

        boolean blank(int width, int height, int colours) {
            if (width < 1 || width > 12 || height < 1 || height > 12 || colours < 1 || colours > 3) {
                return false;
            }
            List<List<int[]>> none = new ArrayList<>();
            for (int i = 0; i < width + height; i++) {
                none.add(new ArrayList<>());
            }
            begin(width, height, colours, none);
            marks = grid(NONE);
            return true;
        }

        private void begin(int width, int height, int colours, List<List<int[]>> runs) {
            w = width;
            h = height;
            c = colours;
            lines = runs;
            known.clear();
            givens = grid(NONE);
            sets = null;
            stands = false;
            nodes = NONE;
        }

        private int[][] grid(int v) {
            int[][] g = new int[h][w];
            for (int[] row : g) {
                Arrays.fill(row, v);
            }
            return g;
        }

        private int runs() {
            return lines.stream().mapToInt(List::size).sum();
        }

        private int count(int[][] g) {
            return (int) Arrays.stream(g).flatMapToInt(Arrays::stream).filter(v -> v != NONE).count();
        }

        int about(int what) {
            if (w == 0 || what < 0 || what > 7) {
                return NONE;
            }
            int singles = 0;
            for (int i = 0; sets != null && i < w * h; i++) {
                singles += Integer.bitCount(sets[i / w][i % w]) == 1 ? 1 : 0;
            }
            return new int[] {w, h, c, w + h, runs(), count(givens), count(marks), singles}[what];
        }

        private boolean noLine(int line) {
            return line < 0 || line >= w + h;
        }

        private boolean noCell(int x, int y) {
            return x < 0 || y < 0 || x >= w || y >= h;
        }

        int run(int line, int k, int what) {
            if (noLine(line)) {
                return NONE;
            }
            List<int[]> runs = lines.get(line);
            if (k == NONE) {
                return runs.size();
            }
            return k < 0 || k >= runs.size() || what < 0 || what > 1 ? NONE : runs.get(k)[what];
        }

        boolean give(int x, int y, int v) {
            if (noCell(x, y) || v < NONE || v > c) {
                return false;
            }
            givens[y][x] = v;
            stands = false;
            return true;
        }

        int given(int x, int y) {
            return noCell(x, y) ? NONE : givens[y][x];
        }

        private int[][] firstSets() {
            int[][] s = grid((1 << c + 1) - 1);
            tell(s, givens);
            return s;
        }

        private void tell(int[][] s, int[][] g) {
            for (int y = 0; y < h; y++) {
                for (int x = 0; x < w; x++) {
                    s[y][x] = g[y][x] == NONE ? s[y][x] : 1 << g[y][x];
                }
            }
        }

        boolean fresh() {
            if (w == 0) {
                return false;
            }
            sets = firstSets();
            return true;
        }

        static List<int[]> read(int[] values) {
            List<int[]> runs = new ArrayList<>();
            for (int i = 0; i < values.length; i++) {
                if (values[i] == 0) {
                    continue;
                }
                if (i > 0 && values[i - 1] == values[i]) {
                    runs.get(runs.size() - 1)[0]++;
                } else {
                    runs.add(new int[] {1, values[i]});
                }
            }
            return runs;
        }

        private static boolean same(List<int[]> a, List<int[]> b) {
            boolean is = a.size() == b.size();
            for (int i = 0; is && i < a.size(); i++) {
                is = Arrays.equals(a.get(i), b.get(i));
            }
            return is;
        }

        private int[] lineOf(int[][] g, int line) {
            int[] values = new int[line < h ? w : h];
            for (int i = 0; i < values.length; i++) {
                values[i] = line < h ? g[line][i] : g[i][line - h];
            }
            return values;
        }

        /** Adds to seen, by cells, the VALUES of all WAYS: how many there are. */
        private long go(int[] row, int at, int[] setsOfLine, List<int[]> runs, int[] seen) {
            if (at == row.length) {
                if (!same(read(row), runs)) {
                    return 0;
                }
                for (int i = 0; i < at; i++) {
                    seen[i] |= 1 << row[i];
                }
                return 1;
            }
            long sum = 0;
            for (int v = 0; v <= 3; v++) {
                if ((setsOfLine[at] >> v & 1) == 1) {
                    row[at] = v;
                    if (canGoOn(read(Arrays.copyOf(row, at + 1)), runs)) {
                        sum += go(row, at + 1, setsOfLine, runs, seen);
                    }
                }
            }
            return sum;
        }

        private static boolean canGoOn(List<int[]> begun, List<int[]> runs) {
            if (begun.size() > runs.size()) {
                return false;
            }
            for (int i = 0; i < begun.size(); i++) {
                int[] a = begun.get(i);
                int[] b = runs.get(i);
                if (a[1] != b[1] || a[0] > b[0] || i < begun.size() - 1 && a[0] != b[0]) {
                    return false;
                }
            }
            return true;
        }

        /** How many SETS became smaller, or -2. */
        private int ruleOn(int[][] s, int line) {
            int[] now = lineOf(s, line);
            int[] seen = known.computeIfAbsent(line + Arrays.toString(now), key -> {
                int[] all = new int[now.length];
                return go(new int[now.length], 0, now, lines.get(line), all) == 0 ? new int[0] : all;
            });
            if (seen.length == 0) {
                return -2;
            }
            int smaller = 0;
            for (int i = 0; i < now.length; i++) {
                smaller += seen[i] != now[i] ? 1 : 0;
                s[line < h ? line : i][line < h ? i : line - h] = seen[i];
            }
            return smaller;
        }

        int rule(int line) {
            return sets == null || noLine(line) ? NONE : ruleOn(sets, line);
        }

        long ways(int line) {
            if (sets == null || noLine(line)) {
                return NONE;
            }
            int[] now = lineOf(sets, line);
            return go(new int[now.length], 0, now, lines.get(line), new int[now.length]);
        }

        private int restOf(int[][] s) {
            int uses = 0;
            boolean smaller = true;
            while (smaller) {
                smaller = false;
                for (int line = 0; line < w + h; line++) {
                    int n = ruleOn(s, line);
                    uses++;
                    if (n == -2) {
                        return -2;
                    }
                    smaller |= n > 0;
                }
            }
            return uses;
        }

        int rest() {
            if (w == 0) {
                return NONE;
            }
            sets = sets == null ? firstSets() : sets;
            return restOf(sets);
        }

        private int[][] copy(int[][] s) {
            int[][] t = new int[h][];
            for (int y = 0; y < h; y++) {
                t[y] = s[y].clone();
            }
            return t;
        }

        private int tryAll(int[][] s) {
            int left = 0;
            boolean again = true;
            while (again) {
                again = false;
                for (int cell = 0; cell < w * h; cell++) {
                    int x = cell % w;
                    int y = cell / w;
                    for (int v = 0; v <= c; v++) {
                        if (Integer.bitCount(s[y][x]) < 2 || (s[y][x] >> v & 1) == 0) {
                            continue;
                        }
                        int[][] t = copy(s);
                        t[y][x] = 1 << v;
                        if (restOf(t) == -2) {
                            s[y][x] -= 1 << v;
                            left++;
                            again = true;
                            if (restOf(s) == -2) {
                                return -2;
                            }
                        }
                    }
                }
            }
            return left;
        }

        int tries() {
            int uses = rest();
            return uses < 0 ? uses : tryAll(sets);
        }

        int set(int x, int y) {
            return sets == null || noCell(x, y) ? NONE : sets[y][x];
        }

        /** False as soon as it is to end. */
        private boolean seek(int[][] s) {
            if (restOf(s) == -2) {
                return true;
            }
            int fewest = 9;
            int cell = NONE;
            for (int i = 0; i < w * h; i++) {
                int n = Integer.bitCount(s[i / w][i % w]);
                if (n > 1 && n < fewest) {
                    fewest = n;
                    cell = i;
                }
            }
            if (cell == NONE) {
                solutions.add(s);
                return solutions.size() < wanted;
            }
            for (int v = 0; v <= c; v++) {
                if ((s[cell / w][cell % w] >> v & 1) == 0) {
                    continue;
                }
                if (used == allowed) {
                    spent = true;
                    return false;
                }
                used++;
                int[][] t = copy(s);
                t[cell / w][cell % w] = 1 << v;
                if (!seek(t)) {
                    return false;
                }
            }
            return true;
        }

        private void seekAll(int n, int most) {
            wanted = n;
            allowed = most;
            used = 0;
            spent = false;
            solutions = new ArrayList<>();
            seek(firstSets());
        }

        int search(int n, int most) {
            if (w == 0 || n < 1 || n > 50 || most < 0 || most > 1000) {
                return NONE;
            }
            seekAll(n, most);
            found = solutions;
            nodes = used;
            stands = true;
            return spent ? -2 : found.size();
        }

        int solution(int k, int x, int y) {
            if (!stands || noCell(x, y) || k < 0 || k > 1 || k >= found.size()) {
                return NONE;
            }
            return Integer.numberOfTrailingZeros(found.get(k)[y][x]);
        }

        private boolean allOne(int[][] s) {
            return Arrays.stream(s).flatMapToInt(Arrays::stream).allMatch(v -> Integer.bitCount(v) == 1);
        }

        int level() {
            if (w == 0) {
                return NONE;
            }
            int[][] s = firstSets();
            if (restOf(s) == -2) {
                return 4;
            }
            if (allOne(s)) {
                return 0;
            }
            if (tryAll(s) == -2) {
                return 4;
            }
            if (allOne(s)) {
                return 1;
            }
            seekAll(2, 400);
            return spent ? 5 : new int[] {4, 2, 3}[solutions.size()];
        }

        boolean mark(int x, int y, int v) {
            if (noCell(x, y) || v < NONE || v > c) {
                return false;
            }
            marks[y][x] = v;
            return true;
        }

        int marked(int x, int y) {
            return noCell(x, y) ? NONE : marks[y][x];
        }

        private int[][] picture() {
            int[][] p = copy(marks);
            for (int[] row : p) {
                for (int x = 0; x < w; x++) {
                    row[x] = Math.max(row[x], 0);
                }
            }
            return p;
        }

        int done() {
            if (w == 0) {
                return NONE;
            }
            int[][] p = picture();
            boolean is = true;
            for (int line = 0; line < w + h; line++) {
                is &= same(read(lineOf(p, line)), lines.get(line));
            }
            for (int i = 0; i < w * h; i++) {
                int v = givens[i / w][i % w];
                is &= v == NONE || v == p[i / w][i % w];
            }
            return is ? 1 : 0;
        }

        int wrong() {
            if (w == 0 || !stands || found.isEmpty()) {
                return NONE;
            }
            int n = 0;
            for (int i = 0; i < w * h; i++) {
                int v = marks[i / w][i % w];
                n += v != NONE && v != solution(0, i % w, i / w) ? 1 : 0;
            }
            return n;
        }

        int hint() {
            for (int line = 0; line < w + h; line++) {
                int[][] s = grid((1 << c + 1) - 1);
                tell(s, marks);
                tell(s, givens);
                if (ruleOn(s, line) == -2) {
                    return -2 - line;
                }
                for (int i = 0; i < w * h; i++) {
                    int x = i % w;
                    int y = i / w;
                    boolean here = line < h ? y == line : x == line - h;
                    if (here && givens[y][x] == NONE && marks[y][x] == NONE && Integer.bitCount(s[y][x]) == 1) {
                        return 10000 * line + 1000 * Integer.numberOfTrailingZeros(s[y][x]) + 12 * y + x;
                    }
                }
            }
            return NONE;
        }

        int draw() {
            if (w == 0) {
                return NONE;
            }
            List<List<int[]>> drawn = new ArrayList<>();
            for (int line = 0; line < w + h; line++) {
                drawn.add(read(lineOf(picture(), line)));
            }
            begin(w, h, c, drawn);
            return runs();
        }

        int mend() {
            if (done() != 1) {
                return NONE;
            }
            int told = 0;
            while (true) {
                seekAll(2, 400);
                if (spent) {
                    return -2;
                }
                if (solutions.size() < 2) {
                    return told;
                }
                int i = 0;
                while (solutions.get(0)[i / w][i % w] == solutions.get(1)[i / w][i % w]) {
                    i++;
                }
                give(i % w, i / w, picture()[i / w][i % w]);
                told++;
            }
        }
    }

    /** Reads a text with patterns: cut whole, then TOKEN by TOKEN. */
    private static final class TextModel {
        private int kind = 0;
        private int place = 0;
        private final int[] sizes = new int[3];
        private final List<List<int[]>> lines = new ArrayList<>();
        private final List<String> tokens = new ArrayList<>();
        private final List<Integer> places = new ArrayList<>();
        private int at = 0;

        TextModel(String text) {
            Matcher m = Pattern.compile("[0-9]+|[^0-9]", Pattern.DOTALL).matcher(text);
            while (m.find()) {
                if (m.group().matches("[ \n]")) {
                    continue;
                }
                if (!m.group().matches("[0-9][0-9]?|[abc;]")) {
                    kind = 1;
                    place = m.start();
                    return;
                }
                tokens.add(m.group());
                places.add(m.start());
            }
            tokens.add("$");
            places.add(text.length());
            kind = readAll();
            place = places.get(at);
        }

        private boolean isNumber() {
            return Character.isDigit(tokens.get(at).charAt(0));
        }

        private int readAll() {
            for (int i = 0; i < 3; i++) {
                if (!isNumber()) {
                    return 2;
                }
                sizes[i] = Integer.parseInt(tokens.get(at));
                if (sizes[i] < 1 || sizes[i] > (i < 2 ? 12 : 3)) {
                    return 3;
                }
                at++;
            }
            if (!tokens.get(at).equals(";")) {
                return 2;
            }
            at++;
            for (int line = 0; line < sizes[0] + sizes[1]; line++) {
                int f = readLine(line < sizes[1] ? sizes[0] : sizes[1]);
                if (f != 0) {
                    return f;
                }
            }
            return tokens.get(at).equals("$") ? sums() : 2;
        }

        private int readLine(int cells) {
            List<int[]> runs = new ArrayList<>();
            lines.add(runs);
            while (!tokens.get(at).equals(";")) {
                if (!isNumber()) {
                    return 2;
                }
                int length = Integer.parseInt(tokens.get(at));
                if (length == 0) {
                    return 4;
                }
                if (runs.size() == 12) {
                    return 5;
                }
                at++;
                int colour = "abc".indexOf(tokens.get(at)) + 1;
                if (colour > sizes[2]) {
                    return 4;
                }
                at += colour > 0 ? 1 : 0;
                runs.add(new int[] {length, Math.max(1, colour)});
            }
            int[] all = new int[cells];
            Arrays.fill(all, 15);
            if (new Model().go(new int[cells], 0, all, runs, new int[cells]) == 0) {
                return 6;
            }
            at++;
            return 0;
        }

        private int sums() {
            int[] sum = new int[4];
            for (int line = 0; line < lines.size(); line++) {
                for (int[] r : lines.get(line)) {
                    sum[r[1]] += line < sizes[1] ? r[0] : -r[0];
                }
            }
            return sum[1] == 0 && sum[2] == 0 && sum[3] == 0 ? 0 : 7;
        }
    }
}
