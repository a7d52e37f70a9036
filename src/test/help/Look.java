/**
 * What tests put into an object and see of it, as texts. A picture has a character a cell, rows parted
 * by /: the VALUE, or . where there is none. SETS are shown likewise, a sum (in hexadecimal) a cell.
 */
public final class Look {
    public static final int NONE = -1;

    private Look() {
    }

    // ---- into an object

    /** Puts a text of bytes on an empty TAPE. */
    public static void feed(CellPictures x, String text) {
        for (int at = 0; at < text.length(); at += 20) {
            int[] n = new int[5];
            for (int i = 0; i < 20; i++) {
                n[i / 4] = n[i / 4] << 8 | (at + i < text.length() ? text.charAt(at + i) : ' ');
            }
            x.feed(n[0], n[1], n[2], n[3], n[4]);
        }
        x.end(text.length());
    }

    public static CellPictures loaded(String text) {
        CellPictures x = new CellPictures();
        feed(x, text);
        if (x.load() < 0) {
            throw new IllegalStateException("refused: " + text);
        }
        return x;
    }

    public static CellPictures blank(int w, int h, int c) {
        CellPictures x = new CellPictures();
        if (!x.blank(w, h, c)) {
            throw new IllegalStateException("refused: " + w + " " + h + " " + c);
        }
        return x;
    }

    public static void mark(CellPictures x, String picture) {
        String[] rows = picture.split("/");
        for (int y = 0; y < rows.length; y++) {
            for (int i = 0; i < rows[y].length(); i++) {
                if (rows[y].charAt(i) != '.') {
                    x.mark(i, y, rows[y].charAt(i) - '0');
                }
            }
        }
    }

    /** The PUZZLE of a picture, its cells marked. */
    public static CellPictures drawn(int colours, String picture) {
        String[] rows = picture.split("/");
        CellPictures x = blank(rows[0].length(), rows.length, colours);
        mark(x, picture);
        x.draw();
        return x;
    }

    // ---- of an object

    private interface Cell {
        int at(int x, int y);
    }

    private static String picture(CellPictures p, Cell cell) {
        StringBuilder text = new StringBuilder();
        for (int y = 0; y < p.about(1); y++) {
            text.append(y > 0 ? "/" : "");
            for (int x = 0; x < p.about(0); x++) {
                int v = cell.at(x, y);
                text.append(v == NONE ? "." : Integer.toHexString(v));
            }
        }
        return text.toString();
    }

    public static String givens(CellPictures x) {
        return picture(x, x::given);
    }

    public static String marks(CellPictures x) {
        return picture(x, x::marked);
    }

    public static String sets(CellPictures x) {
        return picture(x, x::set);
    }

    public static String solution(CellPictures p, int k) {
        return picture(p, (x, y) -> p.solution(k, x, y));
    }

    /** The RUNS of a LINE, as they stand in a text. */
    public static String runs(CellPictures x, int line) {
        StringBuilder text = new StringBuilder();
        for (int k = 0; k < x.run(line, NONE, 0); k++) {
            text.append(x.run(line, k, 0)).append("-abc".charAt(x.run(line, k, 1)));
        }
        return text.toString();
    }

    public static String puzzle(CellPictures x) {
        StringBuilder text = new StringBuilder();
        text.append(x.about(0)).append(' ').append(x.about(1)).append(' ').append(x.about(2)).append(';');
        for (int line = 0; line < x.about(3); line++) {
            text.append(runs(x, line)).append(';');
        }
        return text.toString();
    }

    /** All that can be seen without changing it, but for the latest FAULT. */
    public static String state(CellPictures x) {
        return puzzle(x) + " runs " + x.about(4) + " given " + x.about(5) + " " + givens(x) + " marked " + x.about(6)
                + " " + marks(x) + " sets " + x.about(7) + " " + sets(x) + " nodes " + x.nodes() + " found "
                + solution(x, 0) + " " + solution(x, 1) + " wrong " + x.wrong() + " done " + x.done();
    }
}
