public final class Example {

    public static void main(String[] args) {
        ColumnsLevelled x = new ColumnsLevelled();

        // a head, nine lines with a note of three lines at the second, a span, a table of six rows
        feed(x, "height 16; head 2; lines 9 1 mark 2 3; span 4; table 1 6 2 space 1");
        show(x.tell());         // 16: the pieces
        show(x.pour());         // 2: the pages

        // how it is poured: two columns above the span, two below it, two on the next page
        show(x.column(-1, 0));  // 6: the columns
        show(x.column(0, 4));   // 5: the first one ends ahead of piece 5
        show(x.column(0, 8));   // 1: so many lines of the note stand in it,
        show(x.column(1, 8));   // 2: the others in the next one
        show(x.span(0, 1));     // 8: so much of the page is above the span
        show(x.where(12, 0));   // 1: the table's third row stands on page 1,
        show(x.where(12, 2));   // 1: below the table's head, which comes again

        // what else it could be
        show(x.least(0));       // 8: the least height for the section ahead of the span
        show(x.tall(1));        // 19: the least HEIGHT by which one page holds all
        show(x.trial(0, 3));    // 1: the pages, were there three columns

        // what is changed can be undone, or kept on a shelf
        show(x.keep(1));        // 4: the blocks
        show(x.set(1, 19));     // 16: what HEIGHT was
        show(x.pour());         // 1: the pages
        show(x.undo());         // 0: no more can be undone
        show(x.drop(2));        // 3: the blocks that are left without the span
        show(x.back(1));        // 4: the blocks, as they were kept

        // a text that is none: what is wrong stands at byte 6, and 2 is for a number
        feed(x, "lines 31 1");
        show(x.tell());         // -52: -2 - (8 * 6 + 2); all is as it was
    }

    /** Twenty bytes go in by each call, four in a number; what is behind the text is cut off. */
    private static void feed(ColumnsLevelled x, String text) {
        int[] v = new int[5];
        for (int from = 0; from < text.length(); from += 20) {
            for (int i = 0; i < 20; i++) {
                int b = from + i < text.length() ? text.charAt(from + i) : 0;
                v[i / 4] = v[i / 4] << 8 | b;
            }
            x.feed(v[0], v[1], v[2], v[3], v[4]);
        }
        x.end(text.length());
    }

    private static void show(int answer) {
        System.out.println(answer);
    }
}
