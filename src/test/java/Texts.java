import java.nio.charset.StandardCharsets;
import java.util.Arrays;

/** Objects with a text told, and what can be seen of them, for all tests. */
final class Texts {

    private Texts() {
    }

    /** Twenty bytes of a text from a place on, zeros behind its end, as the five numbers of feed(). */
    static int[] portion(byte[] bytes, int from) {
        int[] v = new int[5];
        for (int i = 0; i < 20; i++) {
            int b = from + i < bytes.length ? bytes[from + i] & 255 : 0;
            v[i / 4] = v[i / 4] << 8 | b;
        }
        return v;
    }

    static void feed(ColumnsLevelled x, String text) {
        byte[] bytes = text.getBytes(StandardCharsets.ISO_8859_1);
        int before = x.count(5);
        for (int fed = 0; fed < bytes.length; fed += 20) {
            int[] v = portion(bytes, fed);
            x.feed(v[0], v[1], v[2], v[3], v[4]);
        }
        x.end(before + bytes.length);
    }

    static int tell(ColumnsLevelled x, String text) {
        x.end(0);
        feed(x, text);
        return x.tell();
    }

    static ColumnsLevelled of(String text) {
        ColumnsLevelled x = new ColumnsLevelled();
        int pieces = tell(x, text);
        if (pieces < 0) {
            throw new IllegalArgumentException("no text: " + text + " (" + pieces + ")");
        }
        return x;
    }

    static int[] block(ColumnsLevelled x, int block) {
        int[] row = new int[9];
        for (int what = 0; what < row.length; what++) {
            row[what] = x.block(block, what);
        }
        return row;
    }

    static int[] piece(ColumnsLevelled x, int piece) {
        int[] row = new int[7];
        for (int what = 0; what < row.length; what++) {
            row[what] = x.piece(piece, what);
        }
        return row;
    }

    static int[] section(ColumnsLevelled x, int section) {
        int[] row = new int[5];
        for (int what = 0; what < row.length; what++) {
            row[what] = x.section(section, what);
        }
        return row;
    }

    static int[] column(ColumnsLevelled x, int column) {
        int[] row = new int[12];
        for (int what = 0; what < row.length; what++) {
            row[what] = x.column(column, what);
        }
        return row;
    }

    static int[] page(ColumnsLevelled x, int page) {
        int[] row = new int[5];
        for (int what = 0; what < row.length; what++) {
            row[what] = x.page(page, what);
        }
        return row;
    }

    static int[] where(ColumnsLevelled x, int piece) {
        return new int[] {x.where(piece, 0), x.where(piece, 1), x.where(piece, 2)};
    }

    static int[] note(ColumnsLevelled x, int k) {
        return new int[] {x.note(k, 0), x.note(k, 1), x.note(k, 2), x.note(k, 3)};
    }

    static int[] span(ColumnsLevelled x, int k) {
        return new int[] {x.span(k, 0), x.span(k, 1)};
    }

    /** By pieces: 1 if a column may end behind it. */
    static String ends(ColumnsLevelled x) {
        StringBuilder bits = new StringBuilder();
        int pieces = x.count(1);
        for (int piece = 0; piece < pieces; piece++) {
            bits.append(x.piece(piece, 5));
        }
        return bits.toString();
    }

    /** All that can be seen of the RUN, the SETTINGS and what was poured of them. */
    static String state(ColumnsLevelled x) {
        StringBuilder all = new StringBuilder();
        for (int what = 0; what < 18; what++) {
            all.append(x.count(what)).append(' ');
        }
        int blocks = x.count(0);
        int pieces = x.count(1);
        int columns = Math.min(6, x.column(-1, 0));
        for (int i = 0; i < blocks; i++) {
            all.append("; block ").append(Arrays.toString(block(x, i)));
        }
        for (int i = 0; i < pieces; i++) {
            all.append("; piece ").append(Arrays.toString(piece(x, i)));
        }
        all.append("; pour ").append(x.pour());
        for (int i = 0; i < columns; i++) {
            all.append("; column ").append(Arrays.toString(column(x, i)));
        }
        return all.toString();
    }
}
