import java.util.function.IntUnaryOperator;
import java.util.function.ToIntFunction;

/** For each sentence of the document's promises a test that fails if the sentence is broken. */
public final class PromiseSentencesTest {

    private static final int NONE = ColumnsLevelled.NONE;
    private static final String ALONE = "columns 1;height 10;orphans 1;widows 1;";
    private static final String TWO = "columns 2;height 10;orphans 1;widows 1;";
    /**
     * Four columns on two PAGES: 6 lines with a note line, RULE; a line with 4 note lines that are CARRIED;
     * below a span 3 rows of a table; its last row behind its head that comes again, and a solid.
     */
    private static final String RICH = "columns 2;height 12;widows 1;rule 1;note 2;head 2 space 9;lines 6 1 mark 2 5;"
        + "span 3;table 1 4 2 space 5;solid 3 space 2";
    private static final String TALLEST = "columns 1;" + "solid 200;".repeat(9) + "solid 200";
    private static final String TOO_TALL = "columns 1;" + "solid 200;".repeat(10) + "solid 200";
    private static final int[] OUTSIDE = {Integer.MIN_VALUE, -3, -2, 1000, Integer.MAX_VALUE};
    private static final int BLANKS = 0x20202020;
    private static final Sheet t = new Sheet("What it is", "Promise ");

    private PromiseSentencesTest() {
    }

    public static void main(String[] args) {
        whatItIs();
        newObject();
        feed();
        end();
        tell();
        set();
        tie();
        space();
        swap();
        again();
        drop();
        undo();
        keep();
        back();
        block();
        piece();
        section();
        pour();
        column();
        columnHeights();
        where();
        note();
        span();
        fits();
        least();
        reach();
        trial();
        costs();
        tall();
        loose();
        page();
        ways();
        untie();
        narrow();
        even();
        order();
        count();
        t.finish();
    }

    /** An object of which much has been told: ten ACTS of twelve, a TAPE, a SHELF on which something is KEPT. */
    private static ColumnsLevelled busy() {
        ColumnsLevelled x = Texts.of("columns 3;height 30;lines 4 1 tied mark 2 3;solid 5 space 2;span 4;"
            + "table 1 3 2;head 2;lines 3 2 whole");
        x.keep(0);
        for (int i = 1; i <= 12; i++) {
            x.set(1, 30 + i);
        }
        Texts.feed(x, "solid 7;span 2");
        return x;
    }

    /** A call by which nothing happens: all is as with an object to which it did not come. */
    private static void refused(String call, ToIntFunction<ColumnsLevelled> refusal, int want) {
        ColumnsLevelled x = busy();
        t.due(call, refusal.applyAsInt(x), want);
        t.due("all behind " + call, Texts.state(x), Texts.state(busy()));
        for (int i = 9; i >= 0; i--) {
            t.due("undo behind " + call, x.undo(), i);
            t.due("height behind " + call, x.count(11), 32 + i);
        }
        t.due("tell behind " + call, x.tell(), 1);
        t.due("solid behind " + call, x.block(0, 3), 7);
        t.due("back behind " + call, new int[] {x.back(0), x.count(11), x.back(1)}, 6, 30, -2);
    }

    /** Of all from 0 on: what is answered for each. */
    private static void each(String what, IntUnaryOperator ask, int... want) {
        for (int i = 0; i < want.length; i++) {
            t.due(what + " " + i, ask.applyAsInt(i), want[i]);
        }
    }

    private static void whatItIs() {
        t.under("What it is");
        t.test("Columns levelled: a run of blocks poured into columns: lines that may be broken by laws, blocks that may not,"
            + " heads that keep what follows, tables whose heads come again, spaces that vanish at the ends of columns,"
            + " notes at the foot of the column in which their marks stand, carried on where they are too long;"
            + " heads across all columns, above which the columns are levelled to the least height;"
            + " pages filled and gone on; where each line, each note lies; how far a height reaches, how much each law costs,"
            + " what other settings would make of it; blocks changed, undone, kept.", () -> {
                ColumnsLevelled x = Texts.of(RICH);
                t.due("column 0", Texts.column(x, 0), 0, 0, 0, 0, 6, 7, 0, 5, 1, 0, 10, 1);
                t.due("column 1", Texts.column(x, 1), 0, 1, 0, 6, 7, 1, 4, 0, 4, 0, 10, 1);
                t.due("column 2", Texts.column(x, 2), 1, 0, 1, 7, 10, 7, 0, 0, 0, 3, 8, 1);
                t.due("column 3", Texts.column(x, 3), 1, 1, 1, 10, 12, 8, 0, 0, 0, 3, 8, 1);
            });
        t.test("An object is used for at most 512 calls after it has been made; what later calls answer is free.", () -> {
            String text = ALONE + "solid 6;solid 6";
            ColumnsLevelled x = Texts.of(text);
            int calls = 4 + (text.length() + 19) / 20;
            for (int now = 10; calls < 511; calls++) {
                t.due("set", x.set(1, 22 - now), now);
                now = 22 - now;
            }
            t.due("the 512th", x.pour(), 2);
        });
    }

    private static void newObject() {
        t.under("Promise 1: A new object");
        t.test("No BLOCKS.", () -> {
            ColumnsLevelled x = new ColumnsLevelled();
            each("count", x::count, 0, 0, 0, 0, 0, 0, 0, 0, NONE, NONE, 2, 60, 2, 2, 2, 1, 1, 0, NONE);
            t.due("block", x.block(0, 0), NONE);
            t.due("piece", x.piece(0, 0), NONE);
            t.due("section", x.section(0, 0), NONE);
            t.due("pour", x.pour(), 0);
            t.due("columns, notes", new int[] {x.column(NONE, 0), x.note(NONE, 0)}, 0, 0);
            t.due("page, span, where", new int[] {x.page(0, 0), x.span(0, 0), x.where(0, 0)}, NONE, NONE, NONE);
            t.due("undo, back", new int[] {x.undo(), x.back(0), x.back(1)}, NONE, -2, -2);
            t.due("a section's", new int[] {x.fits(0, 0), x.least(0), x.even(0), x.costs(0, 0)}, NONE, NONE, NONE, NONE);
            t.due("drop, again, swap", new int[] {x.drop(0), x.again(0), x.swap(0, 1)}, NONE, NONE, NONE);
            t.due("trial, tall, order", new int[] {x.trial(0, 1), x.tall(0), x.order(0)}, 0, 10, -2);
            t.due("tell", x.tell(), 0);
        });
    }

    private static void feed() {
        t.under("Promise 2: feed");
        t.test("Twenty bytes come behind the TAPE,", () -> {
            ColumnsLevelled x = new ColumnsLevelled();
            x.feed(0x736f6c69, 0x6420373b, 0x736f6c69, 0x6420383b, 0x736f6c69);
            x.feed(0x64203931, 0x20202020, 0x20202020, 0x20202020, 0x3b202020);
            x.end(36);
            t.due("tell", x.tell(), 3);
            t.due("heights", new int[] {x.block(0, 3), x.block(1, 3), x.block(2, 3)}, 7, 8, 91);
            x.feed(0x736f6c69, 0x6420373b, 0, 0, 0);
            x.end(7);
            x.feed(0x3620203b, 0x68656164, 0x20332020, BLANKS, BLANKS);
            t.due("behind what was cut", x.tell(), 2);
            t.due("heights", new int[] {x.block(0, 3), x.block(1, 3)}, 76, 3);
        });
        t.test("of each number the highest first:", () -> {
            ColumnsLevelled x = new ColumnsLevelled();
            x.feed(0x736f6c69, 0x64203132, 0x33202020, BLANKS, BLANKS);
            t.due("tell", x.tell(), 1);
            t.due("height", x.block(0, 3), 123);
            for (int i = 0; i < 20; i++) {
                int[] v = {BLANKS, BLANKS, BLANKS, BLANKS, BLANKS};
                v[i / 4] |= 0xff << (24 - 8 * (i % 4));
                x.feed(v[0], v[1], v[2], v[3], v[4]);
                t.due("a byte of 255 at " + i, x.tell(), -2 - (8 * i + 1));
            }
        });
        t.test("how many it has;", () -> {
            ColumnsLevelled x = new ColumnsLevelled();
            for (int i = 1; i <= 20; i++) {
                t.due("feed", x.feed(1, 2, 3, 4, 5), 20 * i);
                t.due("count", x.count(5), 20 * i);
            }
            x.end(3);
            t.due("feed", x.feed(1, 2, 3, 4, 5), 23);
        });
        t.test("NONE, and none comes, if it would have more than 400.", () -> {
            ColumnsLevelled x = new ColumnsLevelled();
            Texts.feed(x, "solid 5" + " ".repeat(393));
            t.due("feed", x.feed(0, 0, 0, 0, 0), NONE);
            t.due("count", x.count(5), 400);
            x.end(381);
            t.due("feed", x.feed(0, 0, 0, 0, 0), NONE);
            t.due("count", x.count(5), 381);
            t.due("end", x.end(382), NONE);
            x.end(380);
            t.due("feed", x.feed(BLANKS, BLANKS, BLANKS, BLANKS, BLANKS), 400);
            t.due("feed", x.feed(0, 0, 0, 0, 0), NONE);
            t.due("tell", x.tell(), 1);
        });
    }

    private static void end() {
        t.under("Promise 3: end");
        t.test("The TAPE has its first n bytes alone: n;", () -> {
            ColumnsLevelled x = new ColumnsLevelled();
            t.due("end", x.end(0), 0);
            Texts.feed(x, "solid 12;solid 3;;;;");
            t.due("end", x.end(20), 20);
            t.due("end", x.end(7), 7);
            t.due("count", x.count(5), 7);
            t.due("tell", x.tell(), 1);
            t.due("height", x.block(0, 3), 1);
            Texts.feed(x, "solid 12");
            t.due("end", x.end(0), 0);
            t.due("tell", x.tell(), 0);
        });
        t.test("NONE, and nothing happens, if it has not so many, or n is below 0.", () -> {
            t.due("an empty tape", new ColumnsLevelled().end(1), NONE);
            refused("end 15", x -> x.end(15), NONE);
            refused("end 401", x -> x.end(401), NONE);
            refused("end -1", x -> x.end(-1), NONE);
            refused("end least", x -> x.end(Integer.MIN_VALUE), NONE);
            refused("end most", x -> x.end(Integer.MAX_VALUE), NONE);
        });
    }

    private static void tell() {
        t.under("Promise 4: tell");
        t.test("The TAPE, which is empty then, tells a RUN and SETTINGS in place of those there were", () -> {
            ColumnsLevelled x = busy();
            t.due("tell", x.tell(), 1);
            each("count", x::count, 2, 1, 2, 0, 0, 0, 1, 1, NONE, NONE, 2, 60, 2, 2, 2, 1, 1, 0);
            t.due("blocks", new int[] {x.block(0, 3), x.block(1, 3), x.block(2, 3)}, 7, 2, NONE);
            t.due("tell of an empty tape", x.tell(), 0);
            t.due("blocks", x.count(0), 0);
            x = Texts.of("lines 3 2 tied whole space 4 mark 1 5;table 4 2 2 tied space 1;span 1");
            t.due("poured", new int[] {x.pour(), x.count(1), x.count(2), x.count(3)}, 1, 5, 2, 1);
            t.due("tell", Texts.tell(x, "solid 9;lines 7 1"), 8);
            t.due("a solid", Texts.block(x, 0), 1, 1, 0, 9, 0, 0, 0, 0, 0);
            t.due("lines", Texts.block(x, 1), 0, 7, 1, 1, 0, 0, 0, 0, 0);
            t.due("poured", new int[] {x.pour(), x.count(1), x.count(2), x.count(3), x.least(0)}, 1, 8, 1, 0, 9);
        });
        t.test("(nothing can be UNDONE; SHELVES stay):", () -> {
            ColumnsLevelled x = busy();
            x.tell();
            t.due("undo", new int[] {x.count(4), x.undo()}, 0, NONE);
            t.due("height", x.block(0, 3), 7);
            t.due("shelves", new int[] {x.count(6), x.back(1), x.back(0), x.block(3, 0)}, 1, -2, 6, 3);
        });
        t.test("how many PIECES;", () -> {
            t.due("none", Texts.tell(new ColumnsLevelled(), ""), 0);
            t.due("spans", Texts.tell(new ColumnsLevelled(), "span 1;span 1"), 0);
            t.due("all kinds", Texts.tell(new ColumnsLevelled(), "lines 3 1;solid 5;head 6;table 1 4 1;span 7"), 9);
            t.due("the most", Texts.tell(new ColumnsLevelled(), "lines 30 1;lines 30 1;table 1 29 1;head 1"), 90);
        });
        t.test("-2 - its FAULT, and but for the TAPE nothing happens.", () -> {
            ColumnsLevelled x = busy();
            t.due("tell", Texts.tell(x, "columns 5;lines 9 9 tied;solid 201"), -2 - (8 * 31 + 2));
            ColumnsLevelled y = busy();
            y.end(0);
            t.due("all", Texts.state(x), Texts.state(y));
            for (int i = 9; i >= 0; i--) {
                t.due("undo", new int[] {x.undo(), x.count(11)}, i, 32 + i);
            }
            t.due("the first byte", Texts.tell(new ColumnsLevelled(), ";"), -2 - 1);
        });
    }

    private static void set() {
        t.under("Promise 5: set");
        t.test("A SETTING is told: what it was;", () -> {
            ColumnsLevelled x = Texts.of("lines 4 1;solid 9;span 2;solid 8");
            int[] was = {2, 60, 2, 2, 2, 1, 1, 0};
            int[] now = {1, 10, 9, 1, 0, 3, 0, 60};
            for (int what = 0; what < 8; what++) {
                t.due("set " + what, x.set(what, now[what]), was[what]);
                t.due("count " + what, x.count(10 + what), now[what]);
                t.due("acts", x.count(4), what + 1);
            }
            t.due("what is poured", x.pour(), 3);
        });
        t.test("-2, and nothing happens: it is so;", () -> {
            refused("set 0", x -> x.set(0, 3), -2);
            refused("set 1", x -> x.set(1, 42), -2);
            refused("set 7", x -> x.set(7, 0), -2);
        });
        t.test("NONE, and nothing happens, for others.", () -> {
            int[] least = {1, 10, 1, 1, 0, 1, 0, 0};
            int[] most = {5, 400, 9, 9, 9, 3, 9, 60};
            for (int i = 0; i < 8; i++) {
                int what = i;
                refused("set " + what, x -> x.set(what, least[what] - 1), NONE);
                refused("set " + what, x -> x.set(what, most[what] + 1), NONE);
            }
            refused("set -1", x -> x.set(-1, 1), NONE);
            refused("set 8", x -> x.set(8, 1), NONE);
            for (int what : OUTSIDE) {
                refused("set " + what, x -> x.set(what, 1), NONE);
            }
        });
    }

    private static void tie() {
        t.under("Promise 6: tie");
        t.test("A BLOCK (no span) is TIED, or not: 1;", () -> {
            ColumnsLevelled x = Texts.of("solid 5;lines 3 1;span 1;table 1 2 1;head 1;solid 6");
            for (int block : new int[] {0, 1, 3, 4, 5}) {
                t.due("tie", new int[] {x.tie(block, true), x.block(block, 5)}, 1, 1);
            }
            t.due("acts", x.count(4), 5);
            t.due("no end behind it", new int[] {x.piece(0, 5), x.piece(3, 5), x.piece(5, 5)}, 0, 1, 0);
            t.due("tie", new int[] {x.tie(0, false), x.block(0, 5), x.block(1, 5)}, 1, 0, 1);
            t.due("an end behind it", x.piece(0, 5), 1);
            t.due("acts", x.count(4), 6);
        });
        t.test("-2, and nothing happens: it is so;", () -> {
            refused("tie 0", x -> x.tie(0, true), -2);
            refused("tie 1", x -> x.tie(1, false), -2);
        });
        t.test("NONE, and nothing happens, without it.", () -> {
            refused("tie a span", x -> x.tie(2, true), NONE);
            refused("tie a span", x -> x.tie(2, false), NONE);
            for (int block : new int[] {-1, 6, 16, Integer.MIN_VALUE, Integer.MAX_VALUE}) {
                refused("tie " + block, x -> x.tie(block, true), NONE);
                refused("tie " + block, x -> x.tie(block, false), NONE);
            }
        });
    }

    private static void space() {
        t.under("Promise 7: space");
        t.test("A BLOCK (no span) has a SPACE (0 to 30) ahead of it: what it was;", () -> {
            ColumnsLevelled x = Texts.of("columns 1;solid 5;solid 6 space 7;span 1;table 1 1 1;head 1;lines 1 1");
            t.due("space", new int[] {x.space(1, 30), x.block(1, 7), x.piece(1, 3), x.least(0)}, 7, 30, 30, 41);
            t.due("space", new int[] {x.space(1, 0), x.block(1, 7), x.least(0)}, 30, 0, 11);
            t.due("others", new int[] {x.space(0, 1), x.space(3, 2), x.space(4, 3), x.space(5, 4)}, 0, 0, 0, 0);
            t.due("spaces", new int[] {x.block(0, 7), x.block(3, 7), x.block(4, 7), x.block(5, 7)}, 1, 2, 3, 4);
            t.due("acts", x.count(4), 6);
        });
        t.test("-2, and nothing happens: it is so;", () -> {
            refused("space 1", x -> x.space(1, 2), -2);
            refused("space 0", x -> x.space(0, 0), -2);
        });
        t.test("NONE, and nothing happens, without these.", () -> {
            refused("below 0", x -> x.space(1, -1), NONE);
            refused("above 30", x -> x.space(1, 31), NONE);
            refused("a span's", x -> x.space(2, 1), NONE);
            refused("a span's", x -> x.space(2, 0), NONE);
            for (int block : new int[] {-1, 6, 16, Integer.MIN_VALUE, Integer.MAX_VALUE}) {
                refused("space " + block, x -> x.space(block, 1), NONE);
                refused("space " + block, x -> x.space(block, 0), NONE);
                refused("space 1 " + block, x -> x.space(1, block == 6 ? 60 : block == 16 ? 160 : block), NONE);
            }
        });
    }

    private static void swap() {
        t.under("Promise 8: swap");
        t.test("Two BLOCKS change places (all they have goes with them): 1;", () -> {
            ColumnsLevelled x = Texts.of("lines 3 2 tied whole space 4 mark 3 6 mark 1 5;span 7;solid 9;table 1 2 3");
            t.due("swap", x.swap(0, 3), 1);
            t.due("lines", Texts.block(x, 3), 0, 3, 3, 2, 0, 1, 1, 4, 2);
            t.due("notes", new int[] {x.piece(3, 4), x.piece(4, 4), x.piece(5, 4)}, 5, 0, 6);
            t.due("table", Texts.block(x, 0), 3, 2, 0, 3, 1, 0, 0, 0, 0);
            t.due("between", new int[] {x.block(1, 0), x.block(2, 3)}, 4, 9);
            t.due("the last one first", new int[] {x.swap(2, 1), x.block(1, 0), x.block(2, 0), x.section(0, 1)}, 1, 1, 4, 3);
            t.due("acts", x.count(4), 2);
        });
        t.test("NONE, and nothing happens, without these, or if they are one.", () -> {
            refused("swap 3 3", x -> x.swap(3, 3), NONE);
            for (int block : new int[] {-1, 6, 16, Integer.MIN_VALUE, Integer.MAX_VALUE}) {
                refused("swap 0 " + block, x -> x.swap(0, block), NONE);
                refused("swap " + block + " 0", x -> x.swap(block, 0), NONE);
                refused("swap " + block, x -> x.swap(block, block), NONE);
            }
        });
    }

    private static void again() {
        t.under("Promise 9: again");
        t.test("A BLOCK is there once more, behind the last one: how many BLOCKS;", () -> {
            ColumnsLevelled x = Texts.of("lines 3 2 tied whole space 4 mark 3 6 mark 1 5;span 7;solid 9");
            t.due("again", new int[] {x.again(0), x.again(1), x.again(2)}, 4, 5, 6);
            t.due("lines", Texts.block(x, 3), 0, 3, 4, 2, 0, 1, 1, 4, 2);
            t.due("notes", new int[] {x.piece(4, 4), x.piece(5, 4), x.piece(6, 4)}, 5, 0, 6);
            t.due("span", Texts.block(x, 4), 4, 0, 7, 7, 0, 0, 0, 0, 0);
            t.due("solid", Texts.block(x, 5), 1, 1, 7, 9, 0, 0, 0, 0, 0);
            t.due("the first one", Texts.block(x, 0), 0, 3, 0, 2, 0, 1, 1, 4, 2);
            t.due("acts", x.count(4), 3);
            x.tie(0, false);
            t.due("its own", x.block(3, 5), 1);
        });
        t.test("NONE, and nothing happens, without it;", () -> {
            for (int block : new int[] {-1, 6, 16, Integer.MIN_VALUE, Integer.MAX_VALUE}) {
                refused("again " + block, x -> x.again(block), NONE);
            }
        });
        t.test("-2: there are 16, or there would be more than 90 PIECES.", () -> {
            ColumnsLevelled x = Texts.of("span 1;".repeat(14) + "solid 1");
            t.due("again", new int[] {x.again(14), x.again(14), x.again(0), x.count(0), x.count(4)}, 16, -2, -2, 16, 1);
            x = Texts.of("lines 30 1;lines 29 1;lines 2 1;table 0 28 1;span 1");
            t.due("90 at most", new int[] {x.again(0), x.again(2), x.count(1), x.count(4)}, -2, -2, 89, 0);
            t.due("a span", x.again(4), 6);
            x = Texts.of("lines 30 1;lines 29 1;lines 2 1;table 0 27 1");
            t.due("90", new int[] {x.again(3), x.again(2), x.count(1), x.again(2)}, -2, 5, 90, -2);
        });
    }

    private static void drop() {
        t.under("Promise 10: drop");
        t.test("A BLOCK goes: how many are left;", () -> {
            ColumnsLevelled x = Texts.of("solid 1;lines 3 2 tied mark 2 5;span 7;solid 4;solid 5");
            t.due("the first one", new int[] {x.drop(0), x.count(1), x.block(0, 0), x.block(0, 8)}, 4, 5, 0, 1);
            t.due("the last one", new int[] {x.drop(3), x.count(0), x.block(2, 3), x.block(3, 3)}, 3, 3, 4, NONE);
            t.due("a span", new int[] {x.drop(1), x.count(2), x.block(1, 3), x.piece(1, 4)}, 2, 1, 4, 5);
            t.due("all", new int[] {x.drop(0), x.drop(0), x.count(0), x.count(1), x.pour(), x.count(4)}, 1, 0, 0, 0, 0, 5);
            x = Texts.of("columns 1;solid 5 tied;span 1;solid 200");
            t.due("with its span", new int[] {x.piece(0, 5), x.count(2), x.tall(1)}, 1, 2, 206);
            t.due("without", new int[] {x.drop(1), x.piece(0, 5), x.count(2), x.tall(1)}, 2, 0, 1, 205);
            t.due("alone", new int[] {x.drop(1), x.piece(0, 5), x.tall(1)}, 1, 1, 10);
        });
        t.test("NONE, and nothing happens, without it.", () -> {
            t.due("no blocks", new ColumnsLevelled().drop(0), NONE);
            for (int block : new int[] {-1, 6, 16, Integer.MIN_VALUE, Integer.MAX_VALUE}) {
                refused("drop " + block, x -> x.drop(block), NONE);
            }
        });
    }

    private static void undo() {
        t.under("Promise 11: undo");
        t.test("The last ACT is UNDONE: how many more can be;", () -> {
            ColumnsLevelled x = Texts.of("solid 5;solid 6 space 3;lines 4 1 mark 2 7");
            x.set(0, 3);
            x.tie(1, true);
            x.space(1, 9);
            x.swap(0, 2);
            x.again(0);
            x.drop(0);
            t.due("drop", new int[] {x.undo(), x.count(0), x.block(0, 0), x.piece(1, 4)}, 5, 4, 0, 7);
            t.due("again", new int[] {x.undo(), x.count(0), x.count(4)}, 4, 3, 4);
            t.due("swap", new int[] {x.undo(), x.block(0, 0), x.block(2, 0), x.piece(3, 4)}, 3, 1, 0, 7);
            t.due("space", new int[] {x.undo(), x.block(1, 7)}, 2, 3);
            t.due("tie", new int[] {x.undo(), x.block(1, 5), x.piece(1, 5)}, 1, 0, 1);
            t.due("set", new int[] {x.undo(), x.count(10)}, 0, 2);
            t.due("another act", new int[] {x.set(0, 5), x.count(4), x.undo(), x.count(10)}, 2, 1, 0, 2);
        });
        t.test("NONE, and nothing happens, if none can.", () -> {
            ColumnsLevelled x = new ColumnsLevelled();
            t.due("undo", x.undo(), NONE);
            x = busy();
            x.back(0);
            ColumnsLevelled y = busy();
            y.back(0);
            t.due("undo", x.undo(), NONE);
            t.due("all", Texts.state(x), Texts.state(y));
            t.due("acts go on", new int[] {x.set(0, 1), x.undo(), x.count(10), x.undo(), x.count(10)}, 3, 0, 3, NONE, 3);
        });
    }

    private static void keep() {
        t.under("Promise 12: keep");
        t.test("RUN and SETTINGS are KEPT on a SHELF: how many BLOCKS;", () -> {
            ColumnsLevelled x = Texts.of("note 3;lines 4 1 tied whole space 3 mark 2 7;span 5");
            t.due("keep", new int[] {x.keep(0), x.count(6), x.keep(1), x.count(6)}, 2, 1, 2, 3);
            x.drop(0);
            t.due("anew", new int[] {x.keep(1), x.count(4)}, 1, 1);
            x.back(0);
            t.due("lines", Texts.block(x, 0), 0, 4, 0, 1, 0, 1, 1, 3, 1);
            t.due("note", new int[] {x.count(15), x.piece(1, 4)}, 3, 7);
            t.due("the other one", new int[] {x.back(1), x.block(0, 0)}, 1, 4);
            t.due("no blocks", new ColumnsLevelled().keep(1), 0);
        });
        t.test("NONE, and nothing happens, without that SHELF.", () -> {
            for (int shelf : new int[] {-1, 2, 31, 32, 33, Integer.MIN_VALUE, Integer.MAX_VALUE}) {
                refused("keep " + shelf, x -> x.keep(shelf), NONE);
            }
        });
    }

    private static void back() {
        t.under("Promise 13: back");
        t.test("RUN and SETTINGS are as KEPT (nothing can be UNDONE then): how many BLOCKS;", () -> {
            ColumnsLevelled x = busy();
            x.drop(0);
            t.due("back", new int[] {x.back(0), x.count(4), x.undo(), x.count(0), x.count(11)}, 6, 0, NONE, 6, 30);
            t.due("lines", Texts.block(x, 0), 0, 4, 0, 1, 0, 1, 0, 0, 1);
            x.drop(0);
            x.set(1, 99);
            t.due("once more", new int[] {x.back(0), x.count(0), x.count(11)}, 6, 6, 30);
            x.keep(1);
            x.drop(0);
            t.due("poured", new int[] {x.count(1), x.count(3), x.back(1), x.count(1), x.count(3)}, 8, 0, 6, 12, 1);
            ColumnsLevelled y = new ColumnsLevelled();
            y.keep(0);
            Texts.tell(y, "solid 1");
            t.due("no blocks", new int[] {y.back(0), y.count(0), y.pour()}, 0, 0, 0);
        });
        t.test("NONE, and nothing happens, without that SHELF;", () -> {
            for (int shelf : new int[] {-1, 2, 31, 32, 33, Integer.MIN_VALUE, Integer.MAX_VALUE}) {
                refused("back " + shelf, x -> x.back(shelf), NONE);
            }
        });
        t.test("-2: nothing is KEPT.", () -> {
            refused("back 1", x -> x.back(1), -2);
            t.due("back", new int[] {new ColumnsLevelled().back(0), new ColumnsLevelled().back(1)}, -2, -2);
        });
    }

    private static void block() {
        t.under("Promise 14: block");
        ColumnsLevelled x = Texts.of("span 50;lines 3 2 whole mark 2 1;solid 150 tied;head 9 space 3;span 60;table 8 4 7;"
            + "lines 2 1 mark 1 1 mark 2 9;span 1");
        t.test("Of a BLOCK what 0: its kind (0 lines, 1 solid, 2 head, 3 table, 4 span),", () ->
            each("block", i -> x.block(i, 0), 4, 0, 1, 2, 4, 3, 0, 4));
        t.test("1: PIECES,", () -> each("block", i -> x.block(i, 1), 0, 3, 1, 1, 0, 4, 2, 0));
        t.test("2: its first PIECE (of none: where the next one would be),", () ->
            each("block", i -> x.block(i, 2), 0, 0, 3, 4, 5, 5, 9, 11));
        t.test("3: height (of a line, a row, all of others),", () -> each("block", i -> x.block(i, 3), 50, 2, 150, 9, 60, 7, 1, 1));
        t.test("4: of a table's head (0 of others),", () -> each("block", i -> x.block(i, 4), 0, 0, 0, 0, 0, 8, 0, 0));
        t.test("5: 1 if TIED,", () -> each("block", i -> x.block(i, 5), 0, 0, 1, 0, 0, 0, 0, 0));
        t.test("6: 1 if whole,", () -> each("block", i -> x.block(i, 6), 0, 1, 0, 0, 0, 0, 0, 0));
        t.test("7: SPACE,", () -> each("block", i -> x.block(i, 7), 0, 0, 0, 3, 0, 0, 0, 0));
        t.test("8: MARKS.", () -> each("block", i -> x.block(i, 8), 0, 1, 0, 0, 0, 0, 2, 0));
        t.test("NONE without these.", () -> {
            for (int what = 0; what < 9; what++) {
                t.due("a 9th block", new int[] {x.block(-1, what), x.block(8, what), x.block(16, what)}, NONE, NONE, NONE);
            }
            t.due("what", new int[] {x.block(0, -1), x.block(0, 9)}, NONE, NONE);
            for (int other : OUTSIDE) {
                t.due("" + other, new int[] {x.block(other, 0), x.block(0, other)}, NONE, NONE);
            }
        });
    }

    private static void piece() {
        t.under("Promise 15: piece");
        ColumnsLevelled x = Texts.of("head 3 space 2;lines 6 1 space 4 mark 6 7 mark 2 3;span 2;table 5 3 2 tied space 1;solid 8");
        t.test("Of a PIECE what 0: its BLOCK,", () -> each("piece", i -> x.piece(i, 0), 0, 1, 1, 1, 1, 1, 1, 3, 3, 3, 4));
        t.test("1: its number in it (0 the first),", () -> each("piece", i -> x.piece(i, 1), 0, 0, 1, 2, 3, 4, 5, 0, 1, 2, 0));
        t.test("2: its height,", () -> each("piece", i -> x.piece(i, 2), 3, 1, 1, 1, 1, 1, 1, 7, 2, 2, 8));
        t.test("3: SPACE ahead of it (0 if it is not its BLOCK's first),", () ->
            each("piece", i -> x.piece(i, 3), 2, 4, 0, 0, 0, 0, 0, 1, 0, 0, 0));
        t.test("4: note lines of its NOTE (0 without),", () -> each("piece", i -> x.piece(i, 4), 0, 0, 3, 0, 0, 0, 7, 0, 0, 0, 0));
        t.test("5: 1 if a column may end behind it,", () -> each("piece", i -> x.piece(i, 5), 0, 0, 1, 1, 1, 0, 1, 1, 1, 0, 1));
        t.test("6: its SECTION.", () -> each("piece", i -> x.piece(i, 6), 0, 0, 0, 0, 0, 0, 0, 1, 1, 1, 1));
        t.test("NONE without these.", () -> {
            for (int what = 0; what < 7; what++) {
                t.due("a 12th piece", new int[] {x.piece(-1, what), x.piece(11, what), x.piece(90, what)}, NONE, NONE, NONE);
            }
            t.due("what", new int[] {x.piece(0, -1), x.piece(0, 7)}, NONE, NONE);
            for (int other : OUTSIDE) {
                t.due("" + other, new int[] {x.piece(other, 0), x.piece(0, other)}, NONE, NONE);
            }
            t.due("no piece of a span", Texts.of("span 1").piece(0, 0), NONE);
        });
    }

    private static void section() {
        t.under("Promise 16: section");
        ColumnsLevelled x = Texts.of("span 5;lines 6 1 mark 1 3 mark 4 4;solid 3 tied;solid 4;span 6;span 7;head 2");
        t.test("Of a SECTION what 0: its first PIECE,", () -> each("section", i -> x.section(i, 0), 0, 0, 8, 8));
        t.test("1: the one behind its last one,", () -> each("section", i -> x.section(i, 1), 0, 8, 8, 9));
        t.test("2: height of the span ahead of it (0 without),", () -> each("section", i -> x.section(i, 2), 0, 5, 6, 7));
        t.test("3: ENDS it has,", () -> each("section", i -> x.section(i, 3), 1, 6, 1, 2));
        t.test("4: note lines of all its NOTES.", () -> each("section", i -> x.section(i, 4), 0, 7, 0, 0));
        t.test("NONE without these.", () -> {
            for (int what = 0; what < 5; what++) {
                t.due("a 5th section", new int[] {x.section(-1, what), x.section(4, what), x.section(17, what)}, NONE, NONE, NONE);
            }
            t.due("what", new int[] {x.section(0, -1), x.section(0, 5)}, NONE, NONE);
            for (int other : OUTSIDE) {
                t.due("" + other, new int[] {x.section(other, 0), x.section(0, other)}, NONE, NONE);
            }
        });
    }

    private static void pour() {
        t.under("Promise 17: pour");
        t.test("How many PAGES there are, POURED (0 without BLOCKS);", () -> {
            t.due("no blocks", new ColumnsLevelled().pour(), 0);
            t.due("no blocks any more", Texts.of("columns 3").pour(), 0);
            t.due("a span", Texts.of("span 3").pour(), 1);
            t.due("a page", Texts.of(TWO + "lines 20 1").pour(), 1);
            t.due("two", Texts.of(TWO + "lines 21 1").pour(), 2);
            t.due("forty", Texts.of(ALONE + "lines 30 9;lines 10 9").pour(), 40);
        });
        t.test("-2 - the PIECE at which it is STUCK.", () -> {
            t.due("the first one", Texts.of(ALONE + "solid 11").pour(), -2);
            t.due("the sixth one", Texts.of(ALONE + "lines 5 1;solid 11;solid 1").pour(), -2 - 5);
            t.due("behind page 39", Texts.of(ALONE + "lines 30 9;lines 30 9").pour(), -2 - 40);
        });
    }

    private static void column() {
        t.under("Promise 18: column");
        ColumnsLevelled x = Texts.of(RICH);
        t.test("Of the i-th column poured (till it is STUCK, too) what 0: PAGE,", () -> {
            each("column", i -> x.column(i, 0), 0, 0, 1, 1);
            ColumnsLevelled stuck = Texts.of(ALONE + "solid 3;span 1;lines 7 1;head 5;solid 6");
            t.due("pour", stuck.pour(), -2 - 8);
            t.due("columns", stuck.column(NONE, 0), 3);
            t.due("column 1", Texts.column(stuck, 1), 0, 0, 1, 1, 7, 6, 0, 0, 0, 4, 6, 0);
            t.due("the last one", Texts.column(stuck, 2), 1, 0, 1, 7, 8, 1, 0, 0, 0, 0, 10, 0);
        });
        t.test("1: its number there in its SECTION (0 the first),", () -> {
            each("column", i -> x.column(i, 1), 0, 1, 0, 1);
            ColumnsLevelled more = Texts.of("columns 3;height 10;orphans 1;widows 1;lines 30 2;span 1;lines 3 1");
            each("column", i -> more.column(i, 1), 0, 1, 2, 0, 1, 2, 0, 1, 2, NONE);
        });
        t.test("2: SECTION,", () -> each("column", i -> x.column(i, 2), 0, 0, 1, 1));
        t.test("3: its first PIECE,", () -> each("column", i -> x.column(i, 3), 0, 6, 7, 10));
        t.test("4: the PIECE behind its last one,", () -> each("column", i -> x.column(i, 4), 6, 7, 10, 12));
        t.test("5: TEXT,", () -> each("column", i -> x.column(i, 5), 7, 1, 7, 8));
        t.test("6: CARRIED,", () -> each("column", i -> x.column(i, 6), 0, 4, 0, 0));
        t.test("7: OWN,", () -> each("column", i -> x.column(i, 7), 5, 0, 0, 0));
        t.test("8: note lines that stand in it,", () -> each("column", i -> x.column(i, 8), 1, 4, 0, 0));
        t.test("i NONE, what 0: how many columns.", () -> {
            t.due("columns", x.column(NONE, 0), 4);
            t.due("none", new int[] {new ColumnsLevelled().column(NONE, 0), Texts.of("span 1").column(NONE, 0)}, 0, 0);
            t.due("stuck", Texts.of(ALONE + "solid 11").column(NONE, 0), 0);
        });
        t.test("NONE without these.", () -> {
            for (int what = 0; what < 12; what++) {
                t.due("a 5th column", new int[] {x.column(4, what), x.column(-2, what)}, NONE, NONE);
                t.due("i NONE", x.column(NONE, what), what == 0 ? 4 : NONE);
            }
            t.due("what", new int[] {x.column(0, -1), x.column(0, 12), x.column(NONE, -1)}, NONE, NONE, NONE);
            for (int other : OUTSIDE) {
                t.due("" + other, new int[] {x.column(other, 0), x.column(0, other)}, NONE, NONE);
            }
        });
    }

    private static void columnHeights() {
        ColumnsLevelled x = Texts.of(RICH);
        ColumnsLevelled filled = Texts.of(TWO + "span 6;lines 30 1");
        t.test("9: how much of the PAGE is above it,", () -> {
            each("column", i -> x.column(i, 9), 0, 0, 3, 3);
            each("filled", i -> filled.column(i, 9), 6, 6, 0, 0, 0, 0);
            each("below columns", i -> Texts.of(TWO + "solid 4;span 1;solid 2").column(i, 9), 0, 0, 5, 5);
        });
        t.test("10: its height (LEVELLED, or what was free),", () -> {
            each("column", i -> x.column(i, 10), 10, 10, 8, 8);
            each("filled", i -> filled.column(i, 10), 4, 4, 10, 10, 1, 1);
        });
        t.test("11: 1 if LEVELLED;", () -> {
            each("column", i -> x.column(i, 11), 1, 1, 1, 1);
            each("filled", i -> filled.column(i, 11), 0, 0, 0, 0, 1, 1);
        });
    }

    private static void where() {
        t.under("Promise 19: where");
        ColumnsLevelled x = Texts.of(RICH);
        ColumnsLevelled stuck = Texts.of(ALONE + "solid 3;span 1;lines 7 1;head 5;solid 6;span 1;solid 1");
        t.test("Where a PIECE stands, POURED, what 0: PAGE,", () -> each("where", i -> x.where(i, 0), 0, 0, 0, 0, 0, 0, 0, 1, 1, 1, 1, 1));
        t.test("1: the column (by all),", () -> {
            each("where", i -> x.where(i, 1), 0, 0, 0, 0, 0, 0, 1, 2, 2, 2, 3, 3);
            ColumnsLevelled empty = Texts.of(TWO + "span 6;solid 4;solid 5;span 1;solid 2");
            each("behind those without pieces", i -> empty.where(i, 1), 0, 2, 4);
        });
        t.test("2: how much of its column is above it (SPACES, a table's head that comes again, too);", () -> {
            each("where", i -> x.where(i, 2), 0, 2, 3, 4, 5, 6, 0, 0, 3, 5, 1, 5);
            ColumnsLevelled one = Texts.of("columns 1;height 99;solid 5 space 9;lines 2 3 space 4;table 2 2 1 space 1;head 6 space 30");
            each("where", i -> one.where(i, 2), 0, 9, 12, 16, 19, 50);
            ColumnsLevelled rows = Texts.of("columns 2;table 2 6 2;span 9;table 9 1 1");
            each("rows", i -> rows.where(i, 2), 0, 4, 6, 2, 4, 6, 0);
        });
        t.test("-2: nowhere (it is STUCK ahead of it).", () -> {
            for (int what = 0; what < 3; what++) {
                for (int piece = 7; piece < 11; piece++) {
                    t.due("where " + piece, stuck.where(piece, what), piece == 7 ? new int[] {1, 2, 0}[what] : -2);
                }
            }
            t.due("the head", stuck.pour(), -2 - 8);
        });
        t.test("NONE without these.", () -> {
            for (int what = 0; what < 3; what++) {
                t.due("pieces", new int[] {x.where(-1, what), x.where(12, what), x.where(90, what)}, NONE, NONE, NONE);
            }
            t.due("what", new int[] {x.where(0, -1), x.where(0, 3), stuck.where(9, 3), stuck.where(11, 0)}, NONE, NONE, NONE, NONE);
            for (int other : OUTSIDE) {
                t.due("" + other, new int[] {x.where(other, 0), x.where(0, other)}, NONE, NONE);
            }
        });
    }

    private static void note() {
        t.under("Promise 20: note");
        // 2 lines, a solid, 3 note lines and 2; a line, 7 CARRIED and 2; below the span a line and 8 of 19
        ColumnsLevelled x = Texts.of(ALONE + "rule 0;lines 2 1 mark 2 9 mark 1 3;solid 3;lines 1 1 mark 1 2;span 1;lines 1 1 mark 1 19");
        t.test("Of the k-th NOTE (by PIECES) what 0: its PIECE,", () -> each("note", k -> x.note(k, 0), 0, 1, 3, 4));
        t.test("1: note lines,", () -> each("note", k -> x.note(k, 1), 3, 9, 2, 19));
        t.test("2: how many of them stand in the column of its MARK,", () -> {
            each("note", k -> x.note(k, 2), 3, 2, 2, 8);
            // 7 of the first one's CARRIED stand ahead of the second one's
            ColumnsLevelled y = Texts.of(ALONE + "rule 0;lines 1 1 mark 1 12;solid 4;lines 1 1 mark 1 9");
            each("note", k -> y.note(k, 2), 5, 2);
        });
        t.test("3: in how many columns it stands;", () -> {
            each("note", k -> x.note(k, 3), 1, 2, 1, 3);
            ColumnsLevelled y = Texts.of(ALONE + "rule 0;lines 1 1 mark 1 12;solid 4;lines 1 1 mark 1 9");
            each("note", k -> y.note(k, 3), 2, 2);
            ColumnsLevelled z = Texts.of("columns 3;height 10;orphans 1;widows 1;note 2;lines 6 1 mark 2 7");
            each("note", k -> z.note(k, 3), 3);
        });
        t.test("-2 (2, 3): nowhere.", () -> {
            ColumnsLevelled stuck = Texts.of(ALONE + "rule 1;lines 1 1 mark 1 8;lines 1 9 mark 1 5");
            t.due("pour", stuck.pour(), -2 - 1);
            t.due("note", Texts.note(stuck, 0), 0, 8, 8, 1);
            t.due("note", Texts.note(stuck, 1), 1, 5, -2, -2);
        });
        t.test("k NONE, what 0: how many.", () -> {
            t.due("notes", x.note(NONE, 0), 4);
            t.due("none", new int[] {new ColumnsLevelled().note(NONE, 0), Texts.of("lines 3 1").note(NONE, 0)}, 0, 0);
            ColumnsLevelled most = Texts.of("lines 4 1 mark 1 1 mark 2 1 mark 3 1 mark 4 1");
            for (int i = 2; i <= 16; i++) {
                most.again(0);
            }
            t.due("the most", new int[] {most.note(NONE, 0), most.note(63, 0), most.note(64, 0)}, 64, 63, NONE);
        });
        t.test("NONE without these.", () -> {
            for (int what = 0; what < 4; what++) {
                t.due("notes", new int[] {x.note(-2, what), x.note(4, what)}, NONE, NONE);
                t.due("k NONE", x.note(NONE, what), what == 0 ? 4 : NONE);
            }
            t.due("what", new int[] {x.note(0, -1), x.note(0, 4), x.note(NONE, -1)}, NONE, NONE, NONE);
            for (int other : OUTSIDE) {
                t.due("" + other, new int[] {x.note(other, 0), x.note(0, other)}, NONE, NONE);
            }
        });
    }

    private static void span() {
        t.under("Promise 21: span");
        ColumnsLevelled x = Texts.of(TWO + "room 3;lines 8 1;span 2;lines 4 1;span 4;solid 1;span 60;solid 1;span 1");
        t.test("Where a span stands, POURED (the k-th one, 0 the first), what 0: PAGE,", () -> each("span", k -> x.span(k, 0), 0, 1, 2, 3));
        t.test("1: how much of the PAGE is above it;", () -> each("span", k -> x.span(k, 1), 4, 0, 0, 1));
        t.test("-2: nowhere.", () -> {
            ColumnsLevelled stuck = Texts.of(ALONE + "span 1;solid 3;span 2;solid 11;span 3;span 4");
            t.due("pour", stuck.pour(), -2 - 1);
            each("page", k -> stuck.span(k, 0), 0, 0, -2, -2);
            each("above", k -> stuck.span(k, 1), 0, 4, -2, -2);
            stuck.set(1, 60);
            each("with more height", k -> stuck.span(k, 0), 0, 0, 0, 0);
            stuck.undo();
            each("as it was", k -> stuck.span(k, 0), 0, 0, -2, -2);
            ColumnsLevelled first = Texts.of("solid 11;span 1");
            t.due("it stood", new int[] {first.span(0, 0), first.set(1, 10), first.span(0, 0), first.span(0, 1)}, 0, 60, -2, -2);
        });
        t.test("NONE without these.", () -> {
            for (int what = 0; what < 2; what++) {
                t.due("spans", new int[] {x.span(-1, what), x.span(4, what)}, NONE, NONE);
            }
            t.due("what", new int[] {x.span(0, -1), x.span(0, 2)}, NONE, NONE);
            for (int other : OUTSIDE) {
                t.due("" + other, new int[] {x.span(other, 0), x.span(0, other)}, NONE, NONE);
            }
        });
    }

    private static void fits() {
        t.under("Promise 22: fits");
        t.test("Whether a SECTION FITS, from its first PIECE on, with nothing CARRIED, in COLUMNS of a height (0 to 2000) (1, 0);", () -> {
            ColumnsLevelled x = Texts.of("columns 2;orphans 3;widows 3;lines 7 2;span 4;head 2;solid 9;span 1");
            t.due("lines", new int[] {x.fits(0, 0), x.fits(0, 7), x.fits(0, 8), x.fits(0, 2000)}, 0, 0, 1, 1);
            t.due("head and solid", new int[] {x.fits(1, 10), x.fits(1, 11), x.fits(1, 2000)}, 0, 1, 1);
            t.due("no pieces", new int[] {x.fits(2, 0), x.fits(2, 2000)}, 1, 1);
            x.set(0, 1);
            t.due("one column", new int[] {x.fits(0, 13), x.fits(0, 14)}, 0, 1);
            t.due("the tallest", new int[] {Texts.of(TALLEST).fits(0, 1999), Texts.of(TALLEST).fits(0, 2000)}, 0, 1);
            t.due("too tall", Texts.of(TOO_TALL).fits(0, 2000), 0);
        });
        t.test("NONE without these.", () -> sectionAndHeight((x, section, height) -> x.fits(section, height)));
    }

    private interface Asked {
        int of(ColumnsLevelled x, int section, int height);
    }

    /** A SECTION there is not, a height below 0 or above 2000. */
    private static void sectionAndHeight(Asked call) {
        ColumnsLevelled x = Texts.of("solid 1;span 1;solid 1");
        for (int section : new int[] {Integer.MIN_VALUE, -1, 2, 17, Integer.MAX_VALUE}) {
            t.due("section " + section, call.of(x, section, 5), NONE);
            t.due("no blocks " + section, call.of(new ColumnsLevelled(), section, 5), NONE);
        }
        t.due("no blocks", call.of(new ColumnsLevelled(), 0, 5), NONE);
        for (int height : new int[] {Integer.MIN_VALUE, -1, 2001, Integer.MAX_VALUE}) {
            t.due("height " + height, call.of(x, 0, height), NONE);
        }
        t.due("the last section", call.of(x, 1, 2000) == NONE ? 1 : 0, 0);
        t.due("the least height", call.of(x, 0, 0) == NONE ? 1 : 0, 0);
    }

    private static void least() {
        t.under("Promise 23: least");
        t.test("The least height (0 to 2000) by which it does;", () -> {
            ColumnsLevelled x = Texts.of("columns 2;orphans 3;widows 3;lines 7 2;span 4;head 2;solid 9;span 1");
            each("least", x::least, 8, 11, 0);
            t.due("the most", Texts.of(TALLEST).least(0), 2000);
            // all notes but the last stand by their marks, and of that one line
            ColumnsLevelled z = Texts.of("columns 2;orphans 4;rule 3;note 2;lines 4 1 mark 1 4 mark 3 5");
            t.due("4 lines, RULE, 5 note lines; RULE, 4 note lines", z.least(0), 4 + 3 + 10);
        });
        t.test("-2: by none;", () -> {
            ColumnsLevelled x = Texts.of(TALLEST);
            t.due("2000 high", x.least(0), 2000);
            x.space(9, 1);
            t.due("2001 high", x.least(0), -2);
            t.due("too tall", Texts.of(TOO_TALL).least(0), -2);
            x.set(0, 2);
            t.due("in two columns", x.least(0), 1001);
        });
        t.test("NONE without that SECTION.", () -> sectionAndHeight((x, section, height) ->
            height < 0 || height > 2000 ? NONE : x.least(section)));
    }

    private static void reach() {
        t.under("Promise 24: reach");
        t.test("The last END that k (1 to 5) columns of a height (0 to 2000), one behind the other from a SECTION's first PIECE on,"
            + " can come to, as the PIECE behind it (whatever is CARRIED on);", () -> {
                ColumnsLevelled x = Texts.of("columns 1;orphans 1;widows 1;solid 1;span 1;lines 4 1 mark 2 5;solid 6;span 3");
                t.due("one column", new int[] {x.reach(1, 1, 0), x.reach(1, 1, 3), x.reach(1, 1, 4), x.reach(1, 1, 5)}, 1, 2, 3, 4);
                t.due("two", new int[] {x.reach(1, 2, 0), x.reach(1, 2, 4), x.reach(1, 2, 9)}, 1, 5, 6);
                t.due("five", new int[] {x.reach(1, 5, 2), x.reach(1, 5, 2000), x.reach(0, 5, 2000)}, 2, 6, 1);
                t.due("no pieces", x.reach(2, 1, 0), 6);
                // each of three as late as it can would not come so far
                ColumnsLevelled y = Texts.of("note 3;rule 1;orphans 1;widows 2;lines 7 1 tied mark 2 4;lines 6 1 mark 1 7");
                t.due("the least carried counts", y.reach(0, 3, 9), 9);
            });
        t.test("-2: some column CAN not END at all, whatever those ahead do;", () -> {
            // it never comes about: each column may end where it begins
            ColumnsLevelled x = Texts.of("rule 9;note 3;solid 9;lines 3 1 whole mark 1 20 mark 3 20");
            for (int k = 1; k <= 5; k++) {
                for (int height = 0; height < 70; height += 3) {
                    t.due("reach " + k + " " + height, x.reach(0, k, height) >= 0 ? 1 : 0, 1);
                }
                t.due("reach " + k, x.reach(0, k, 0), 0);
            }
        });
        t.test("NONE without these.", () -> {
            sectionAndHeight((x, section, height) -> x.reach(section, 1, height));
            ColumnsLevelled x = Texts.of("solid 1");
            for (int k : new int[] {Integer.MIN_VALUE, -1, 0, 6, Integer.MAX_VALUE}) {
                t.due("k " + k, x.reach(0, k, 5), NONE);
            }
        });
    }

    private static void trial() {
        t.under("Promise 25: trial");
        t.test("What pour() would tell with another SETTING;", () -> {
            String text = "columns 1;height 20;orphans 2;widows 2;follow 2;note 1;rule 1;room 0;"
                + "head 5 space 3;lines 9 2 mark 4 9;table 2 4 3;span 4;solid 8 tied;lines 5 3";
            int[][] others = {{1, 2, 3, 5}, {10, 25, 61, 400}, {1, 3, 9}, {1, 4, 9}, {0, 5, 9}, {2, 3}, {0, 9}, {5, 13, 60}};
            ColumnsLevelled x = Texts.of(text);
            int poured = x.pour();
            for (int what = 0; what < 8; what++) {
                for (int value : others[what]) {
                    ColumnsLevelled y = Texts.of(text);
                    y.set(what, value);
                    t.due("trial " + what + " " + value, x.trial(what, value), y.pour());
                }
            }
            t.due("nothing happens", new int[] {x.pour(), x.count(4), x.count(11)}, poured, 0, 20);
            ColumnsLevelled z = Texts.of(ALONE + "lines 5 1;solid 11");
            t.due("stuck, not so", new int[] {z.trial(1, 10), z.trial(0, 5), z.trial(1, 11), z.trial(1, 16)}, -7, -7, 2, 1);
            t.due("the room of a span", Texts.of(ALONE + "solid 5;span 5").trial(7, 1), 2);
        });
        t.test("NONE for others.", () -> {
            ColumnsLevelled x = Texts.of("solid 1");
            int[] least = {1, 10, 1, 1, 0, 1, 0, 0};
            int[] most = {5, 400, 9, 9, 9, 3, 9, 60};
            for (int what = 0; what < 8; what++) {
                t.due("beyond", new int[] {x.trial(what, least[what] - 1), x.trial(what, most[what] + 1)}, NONE, NONE);
                t.due("at", new int[] {x.trial(what, least[what]), x.trial(what, most[what])}, 1, 1);
            }
            t.due("what", new int[] {x.trial(-1, 1), x.trial(8, 1)}, NONE, NONE);
            for (int other : OUTSIDE) {
                t.due("" + other, new int[] {x.trial(other, 1), x.trial(0, other)}, NONE, NONE);
            }
        });
    }

    private static void costs() {
        t.under("Promise 26: costs");
        ColumnsLevelled x = Texts.of("columns 2;orphans 3;widows 3;follow 9;lines 5 1;span 1;solid 5 tied;solid 5;span 1;"
            + "lines 8 1 whole;span 1;head 1;lines 12 1");
        t.test("By how much least() of a SECTION would be less, if ORPHANS (law 0), WIDOWS (1) were 1,", () -> {
            each("least", x::least, 5, 10, 8, 10);
            each("orphans", i -> x.costs(i, 0), 2, 0, 0, 0);
            each("widows", i -> x.costs(i, 1), 2, 0, 0, 0);
            t.due("1, not 2", Texts.of("columns 2;orphans 3;widows 3;lines 4 1").costs(0, 0), 1);
            t.due("1, not 2", Texts.of("columns 2;orphans 3;widows 3;lines 4 1").costs(0, 1), 1);
            t.due("they are 1", Texts.of("columns 2;orphans 1;widows 1;lines 3 1").costs(0, 0), 0);
        });
        t.test("FOLLOW (2) 0,", () -> {
            each("follow", i -> x.costs(i, 2), 0, 0, 0, 3);
            t.due("follow", Texts.of("columns 2;orphans 1;widows 1;follow 9;head 1;lines 9 1").costs(0, 2), 5);
        });
        t.test("no BLOCK were TIED (3), whole (4);", () -> {
            each("tied", i -> x.costs(i, 3), 0, 5, 0, 0);
            each("whole", i -> x.costs(i, 4), 0, 0, 4, 0);
            t.due("all of them", Texts.of("columns 3;solid 5 tied;solid 5 tied;solid 5").costs(0, 3), 10);
            t.due("all of them", Texts.of("columns 3;orphans 1;widows 1;lines 6 1 whole;lines 6 1 whole;solid 1").costs(0, 4), 1);
            t.due("still", new int[] {x.block(2, 5), x.block(5, 6), x.count(12), x.count(4)}, 1, 1, 3, 0);
        });
        t.test("-2: least() is none now;", () -> {
            for (int law = 0; law < 5; law++) {
                t.due("law " + law, Texts.of(TOO_TALL).costs(0, law), -2);
            }
            ColumnsLevelled tied = Texts.of("solid 200 tied;".repeat(10) + "solid 1");
            t.due("though it would be one", new int[] {tied.least(0), tied.costs(0, 3)}, -2, -2);
        });
        t.test("NONE without these.", () -> {
            sectionAndHeight((y, section, height) -> height < 0 || height > 2000 ? NONE : y.costs(section, 0));
            for (int law : new int[] {Integer.MIN_VALUE, -1, 5, Integer.MAX_VALUE}) {
                t.due("law " + law, x.costs(0, law), NONE);
            }
        });
    }

    private static void tall() {
        t.under("Promise 27: tall");
        t.test("The least HEIGHT (10 to 400) by which there are n PAGES at most (0 to 40), POURED;", () -> {
            ColumnsLevelled x = Texts.of("columns 1;height 55;lines 5 1;solid 11");
            t.due("tall", new int[] {x.tall(1), x.tall(2), x.tall(3), x.tall(40)}, 16, 11, 11, 11);
            t.due("height", new int[] {x.count(11), x.count(4)}, 55, 0);
            t.due("the least", Texts.of("solid 1").tall(1), 10);
            t.due("the most", Texts.of("columns 1;solid 200;solid 200").tall(1), 400);
            t.due("no blocks", new int[] {new ColumnsLevelled().tall(0), new ColumnsLevelled().tall(40)}, 10, 10);
            t.due("spans", new int[] {Texts.of("span 7;span 7").tall(1), Texts.of("span 7;span 7").tall(2)}, 14, 10);
            t.due("with room", Texts.of("room 9;span 7;span 7").tall(1), 23);
            t.due("as many", Texts.of(ALONE + "lines 30 9;lines 10 9").tall(40), 10);
            // with 12 a row of the table comes to stand on PAGE 0, but a note line then on PAGE 2
            ColumnsLevelled y = Texts.of("columns 1;orphans 1;widows 1;rule 0;lines 3 2 mark 1 7;table 4 4 1");
            t.due("more pages by more height", new int[] {y.trial(1, 10), y.trial(1, 11), y.trial(1, 12), y.trial(1, 13)}, 3, 2, 3, 2);
            t.due("the least", new int[] {y.tall(3), y.tall(2), y.tall(1)}, 10, 11, 21);
        });
        t.test("-2: by none;", () -> {
            t.due("no page", Texts.of("solid 1").tall(0), -2);
            t.due("one too tall", Texts.of("columns 1;solid 200;solid 200;solid 1").tall(1), -2);
            t.due("too many", Texts.of("columns 1;solid 200;solid 200;solid 200").tall(1), -2);
        });
        t.test("NONE for others.", () -> {
            for (int n : new int[] {Integer.MIN_VALUE, -1, 41, Integer.MAX_VALUE}) {
                t.due("n " + n, Texts.of("solid 1").tall(n), NONE);
            }
        });
    }

    private static void loose() {
        t.under("Promise 28: loose");
        ColumnsLevelled x = Texts.of(RICH);
        // 5 lines, 2 loose; a line, RULE and a note line, 0 loose; likewise and 1 less
        ColumnsLevelled y = Texts.of("columns 3;rule 4;note 2;orphans 1;widows 1;lines 6 1 mark 6 2;lines 1 1");
        t.test("What is not used, POURED: of all columns their heights less TEXT, RULE (if it has notes), note lines (by NOTE), together (what 0),", () -> {
            t.due("loose", x.loose(0), 1);
            t.due("loose", y.loose(0), 21 - 7 - 8 - 4);
            t.due("filled", Texts.of(ALONE + "solid 6;solid 6;solid 6").loose(0), 4 + 4);
            t.due("without pieces", Texts.of(TWO + "span 6;solid 4;solid 5").loose(0), 4 + 5);
            t.due("no columns", new int[] {new ColumnsLevelled().loose(0), Texts.of("span 5").loose(0)}, 0, 0);
        });
        t.test("the most of one (1),", () -> {
            t.due("loose", new int[] {x.loose(1), y.loose(1)}, 1, 2);
            t.due("all of it", Texts.of(TWO + "span 6;solid 4;solid 5").loose(1), 5);
            t.due("no columns", new int[] {new ColumnsLevelled().loose(1), Texts.of("span 5").loose(1)}, 0, 0);
        });
        t.test("which column that is (2: of several the first; -2 without columns);", () -> {
            t.due("loose", new int[] {x.loose(2), y.loose(2)}, 2, 0);
            t.due("of several the first", Texts.of("columns 3;solid 3").loose(2), 1);
            t.due("none is loose", Texts.of("columns 2;solid 3;solid 3").loose(2), 0);
            t.due("the last one", Texts.of(TWO + "span 6;solid 4;solid 5").loose(2), 3);
            t.due("no columns", new int[] {new ColumnsLevelled().loose(2), Texts.of("span 5").loose(2)}, -2, -2);
        });
        t.test("-2 - as pour(), if it is STUCK;", () -> {
            ColumnsLevelled stuck = Texts.of(ALONE + "lines 5 1;solid 11");
            t.due("loose", new int[] {stuck.loose(0), stuck.loose(1), stuck.loose(2)}, -7, -7, -7);
            t.due("without columns", Texts.of(ALONE + "solid 11").loose(2), -2);
        });
        t.test("NONE for others.", () -> {
            for (int what : new int[] {Integer.MIN_VALUE, -1, 3, Integer.MAX_VALUE}) {
                t.due("what " + what, new int[] {x.loose(what), new ColumnsLevelled().loose(what)}, NONE, NONE);
                t.due("stuck", Texts.of(ALONE + "solid 11").loose(what), NONE);
            }
        });
    }

    private static void page() {
        t.under("Promise 29: page");
        // 6 lines beside 2 lines, RULE and 2 note lines; the last span comes where nothing is free
        ColumnsLevelled x = Texts.of(TWO + "lines 8 1 mark 8 2;span 2;solid 3;span 2;solid 5;span 1");
        t.test("Of the k-th PAGE, POURED (where it is STUCK, too, up to that on which it is), what 0: columns,", () -> {
            each("page", k -> x.page(k, 0), 2, 4, 0, NONE);
            ColumnsLevelled stuck = Texts.of(ALONE + "lines 5 1;solid 11;solid 1");
            each("stuck on page 1", k -> stuck.page(k, 0), 1, 0, NONE);
            each("stuck on page 0", k -> Texts.of(ALONE + "solid 11").page(k, 0), 0, NONE);
            ColumnsLevelled behind = Texts.of(ALONE + "lines 30 9;lines 30 9");
            t.due("stuck behind page 39", new int[] {behind.page(39, 0), behind.page(40, 0)}, 1, NONE);
        });
        t.test("1: PIECES,", () -> each("page", k -> x.page(k, 1), 8, 2, 0, NONE));
        t.test("2: spans,", () -> {
            each("page", k -> x.page(k, 2), 1, 1, 1, NONE);
            each("stuck", k -> Texts.of(ALONE + "span 1;span 2;solid 9;span 1;solid 11;span 1").page(k, 2), 2, 1, 0, NONE);
        });
        t.test("3: note lines that stand on it,", () -> {
            each("page", k -> x.page(k, 3), 2, 0, 0, NONE);
            each("carried on", k -> Texts.of(ALONE + "rule 0;lines 1 1 mark 1 20").page(k, 3), 9, 10, 1, NONE);
        });
        t.test("4: SECTIONS that have columns on it.", () -> {
            each("page", k -> x.page(k, 4), 1, 2, 0, NONE);
            each("over pages", k -> Texts.of(TWO + "lines 30 1;span 1;solid 2").page(k, 4), 1, 2, NONE);
        });
        t.test("NONE without these.", () -> {
            for (int what = 0; what < 5; what++) {
                t.due("pages", new int[] {x.page(-1, what), x.page(3, what), new ColumnsLevelled().page(0, what)}, NONE, NONE, NONE);
            }
            t.due("what", new int[] {x.page(0, -1), x.page(0, 5)}, NONE, NONE);
            for (int other : OUTSIDE) {
                t.due("" + other, new int[] {x.page(other, 0), x.page(0, other)}, NONE, NONE);
            }
        });
    }

    private static void ways() {
        t.under("Promise 30: ways");
        t.test("How many rows of ENDS there are by which a SECTION FITS, from its first PIECE on, with nothing CARRIED, in COLUMNS of a height (0 to 2000);", () -> {
            ColumnsLevelled x = Texts.of("columns 3;orphans 1;widows 1;solid 1;span 1;lines 3 1;span 1");
            t.due("ways", new int[] {x.ways(1, 0), x.ways(1, 1), x.ways(1, 2), x.ways(1, 3), x.ways(1, 2000)}, 0, 1, 7, 10, 10);
            t.due("no pieces", new int[] {x.ways(2, 0), x.ways(2, 2000)}, 1, 1);
            // the note's second line may stand in the second column
            ColumnsLevelled y = Texts.of("columns 2;orphans 1;widows 1;lines 2 1 mark 1 2");
            t.due("carried", new int[] {y.ways(0, 2), y.ways(0, 3), y.ways(0, 4), y.ways(0, 5)}, 0, 1, 2, 3);
            ColumnsLevelled most = Texts.of("columns 5;orphans 1;widows 1;lines 30 1;lines 30 1;lines 30 1");
            t.due("the most: 4 of 94", most.ways(0, 90), 3049501);
            ColumnsLevelled tied = Texts.of("columns 2;rule 0;solid 25 tied;solid 10");
            t.due("where no column may end", new int[] {tied.ways(0, 34), tied.ways(0, 35), tied.ways(0, 60)}, 0, 2, 2);
            // a note line below the solid and the line, 19 in the next column
            ColumnsLevelled carried = Texts.of("columns 2;rule 0;solid 18;lines 1 1 mark 1 20");
            t.due("19 carried", new int[] {carried.ways(0, 19), carried.ways(0, 20), carried.ways(0, 21)}, 0, 1, 2);
        });
        t.test("NONE without these.", () -> sectionAndHeight((x, section, height) -> x.ways(section, height)));
    }

    private static void untie() {
        t.under("Promise 31: untie");
        ColumnsLevelled x = Texts.of("columns 2;solid 5 tied;solid 5 tied;solid 5");
        t.test("The fewest BLOCKS of a SECTION that are TIED and would have to be loose so that it FITS, from its first PIECE on,"
            + " with nothing CARRIED, in COLUMNS of a height (0 to 2000), as bits of BLOCKS;", () -> {
                t.due("untie", x.untie(0, 10), 1);
                t.due("bits of blocks", Texts.of("columns 2;span 1;solid 3 tied;solid 6 tied;solid 9").untie(1, 9), 4);
                // the first two loose would do as well: by two empty columns' note lines
                ColumnsLevelled few = Texts.of("columns 3;rule 0;lines 1 1 tied mark 1 20;solid 3 tied space 5;solid 1 tied;"
                    + "lines 1 1 space 7 mark 1 1");
                t.due("fewest", few.untie(0, 12), 4);
                few.tie(0, false);
                few.tie(1, false);
                t.due("the first two", few.untie(0, 12), 0);
                t.due("three", Texts.of("columns 4;solid 5 tied;solid 5 tied;solid 5 tied;solid 5").untie(0, 5), 7);
                t.due("tied still", new int[] {x.block(0, 5), x.block(1, 5), x.count(4)}, 1, 1, 0);
            });
        t.test("of as many the least;", () -> {
            t.due("1, not 2", x.untie(0, 10), 1);
            t.due("5, not 6", Texts.of("columns 3;solid 2 tied;solid 2 tied;solid 4 tied;solid 6").untie(0, 6), 5);
        });
        t.test("0: it FITS;", () -> {
            t.due("untie", new int[] {x.untie(0, 14), x.untie(0, 15), x.untie(0, 2000)}, 1, 0, 0);
            t.due("nothing is tied", Texts.of("columns 2;solid 4;solid 4").untie(0, 4), 0);
            t.due("no pieces", Texts.of("span 1").untie(1, 0), 0);
        });
        t.test("the first 8 that are TIED alone are asked;", () -> {
            String nine = "solid 1 tied;".repeat(9) + "solid 9";
            t.due("the ninth is not", Texts.of("columns 2;" + nine).untie(0, 9), -2);
            t.due("the eighth is", Texts.of("columns 2;" + nine).untie(0, 10), 128);
            t.due("of those that are tied", Texts.of("columns 2;solid 1;" + nine).untie(0, 10), 256);
            t.due("of the section", Texts.of("columns 2;solid 1 tied;span 1;solid 4 tied;solid 4").untie(1, 4), 4);
            t.due("of the section", Texts.of("columns 2;solid 4 tied;solid 4;span 1;solid 1 tied").untie(0, 4), 1);
        });
        t.test("-2: by none of these.", () -> {
            t.due("untie", new int[] {x.untie(0, 9), x.untie(0, 0)}, -2, -2);
            t.due("nothing is tied", Texts.of("columns 2;solid 4;solid 4;solid 4").untie(0, 4), -2);
        });
        t.test("NONE without these.", () -> sectionAndHeight((y, section, height) -> y.untie(section, height)));
    }

    private static void narrow() {
        t.under("Promise 32: narrow");
        ColumnsLevelled x = Texts.of("columns 1;span 1;solid 5;solid 5;solid 5;solid 5;solid 5;span 1");
        t.test("The fewest columns (1 to 5) of a height (0 to 2000) in which a SECTION FITS, likewise;", () -> {
            t.due("narrow", new int[] {x.narrow(1, 2000), x.narrow(1, 25), x.narrow(1, 24), x.narrow(1, 15), x.narrow(1, 14),
                x.narrow(1, 10), x.narrow(1, 9), x.narrow(1, 5)}, 1, 1, 2, 2, 3, 3, 5, 5);
            t.due("four", Texts.of("solid 5;solid 5;solid 5;solid 5").narrow(0, 9), 4);
            t.due("no pieces", new int[] {x.narrow(0, 0), x.narrow(2, 0)}, 1, 1);
            t.due("columns", x.count(10), 1);
        });
        t.test("-2: in none;", () -> {
            t.due("narrow", new int[] {x.narrow(1, 4), x.narrow(1, 0)}, -2, -2);
            t.due("six would do", Texts.of("solid 5;".repeat(5) + "solid 5").narrow(0, 9), -2);
        });
        t.test("NONE without these.", () -> sectionAndHeight((y, section, height) -> y.narrow(section, height)));
    }

    private static void even() {
        t.under("Promise 33: even");
        t.test("By how much the highest column of a SECTION is above the lowest one (TEXT, RULE, note lines by NOTE;", () -> {
            each("even", i -> Texts.of(RICH).even(i), 0, 1);
            // 8 of 5 lines, RULE and a note line; 8; RULE and 3 note lines
            t.due("even", Texts.of("columns 3;orphans 1;widows 1;note 2;lines 6 1 mark 2 7").even(0), 1);
            t.due("neither the first nor the last", Texts.of("columns 3;solid 5;solid 9;solid 7").even(0), 4);
            t.due("neither the first nor the last", Texts.of("columns 3;solid 9;solid 4;solid 9").even(0), 5);
        });
        t.test("one without anything: 0),", () -> {
            t.due("even", Texts.of("columns 3;solid 30;solid 20").even(0), 30);
            t.due("no pieces", Texts.of("span 1").even(1), 0);
            t.due("one column", Texts.of("columns 1;solid 30").even(0), 0);
        });
        t.test("it being LEVELLED by least() in COLUMNS as if it stood on a PAGE alone;", () -> {
            // higher than HEIGHT, below a span, behind what is STUCK
            ColumnsLevelled x = Texts.of("height 10;columns 2;solid 50;span 9;solid 30;solid 20;lines 6 1;span 9;lines 5 1");
            t.due("stuck", x.pour(), -2);
            each("even", x::even, 50, 30 - 26, 3 - 2);
            ColumnsLevelled y = Texts.of("columns 2;rule 0;lines 1 1 mark 1 9;solid 5 space 2;solid 5");
            t.due("as late as the rest fits", y.even(0), 0);
            // 2 lines, RULE, 40 note lines; 2 lines, RULE, 39, whatever was tried ahead of it
            ColumnsLevelled z = Texts.of(TWO + "rule 8;lines 4 1 mark 1 20 mark 2 20 mark 3 20 mark 4 19");
            t.due("in one column it is stuck", new int[] {z.trial(0, 1), z.least(0), z.even(0)}, -6, 50, 1);
        });
        t.test("-2: least() is none;", () -> t.due("even", Texts.of(TOO_TALL).even(0), -2));
        t.test("NONE without it.", () -> sectionAndHeight((x, section, height) ->
            height < 0 || height > 2000 ? NONE : x.even(section)));
    }

    private static void order() {
        t.under("Promise 34: order");
        ColumnsLevelled x = Texts.of(ALONE + "solid 8;solid 6;solid 7;solid 4");
        t.test("Of two BLOCKS beside one another (a BLOCK and the next one) those that, were they to change places,"
            + " would make the fewest PAGES, POURED, what 0: the first of the two (of several twos the first),", () -> {
                t.due("order", x.order(0), 1);
                t.due("all alike", Texts.of(ALONE + "solid 8;solid 6;solid 4;solid 5").order(0), 0);
                t.due("a span", Texts.of(ALONE + "solid 6;span 6;solid 4").order(0), 0);
                t.due("the first two are stuck", Texts.of(ALONE + "solid 6;solid 9 tied;solid 4").order(0), 1);
                t.due("nothing happens", new int[] {x.block(1, 3), x.block(2, 3), x.count(4), x.pour()}, 6, 7, 0, 4);
            });
        t.test("1: how many PAGES;", () -> {
            t.due("order", x.order(1), 3);
            t.due("a span", Texts.of(ALONE + "solid 6;span 6;solid 4").order(1), 2);
            t.due("two alike", Texts.of(ALONE + "solid 1;solid 1").order(1), 1);
            t.due("the first two are stuck", Texts.of(ALONE + "solid 6;solid 9 tied;solid 4").order(1), 2);
        });
        t.test("-2: there are no two by which it is not STUCK.", () -> {
            for (String text : new String[] {"room 0", "solid 1", "solid 3;solid 11", "solid 11;solid 3;solid 4"}) {
                ColumnsLevelled stuck = Texts.of(ALONE + text);
                t.due(text, new int[] {stuck.order(0), stuck.order(1)}, -2, -2);
            }
        });
        t.test("NONE for others.", () -> {
            for (int what : new int[] {Integer.MIN_VALUE, -1, 2, Integer.MAX_VALUE}) {
                t.due("what " + what, new int[] {x.order(what), new ColumnsLevelled().order(what)}, NONE, NONE);
            }
        });
    }

    private static void count() {
        t.under("Promise 35: count");
        ColumnsLevelled x = Texts.of("columns 3;height 20;orphans 4;widows 5;follow 6;note 2;rule 7;room 8;"
            + "lines 4 1 mark 1 1 mark 2 2;span 4;lines 2 1 mark 2 3;span 1");
        x.keep(1);
        x.set(0, 5);
        x.set(0, 4);
        x.feed(0, 0, 0, 0, 0);
        String[] sentences = {"What 0: BLOCKS,", "1: PIECES,", "2: SECTIONS,", "3: NOTES,", "4: ACTS that can be UNDONE,",
            "5: bytes of the TAPE,", "6: SHELVES on which something is KEPT, as bits,", "7: spans,"};
        int[] due = {4, 6, 3, 3, 2, 20, 2, 2};
        int[] empty = {0, 0, 0, 0, 0, 0, 0, 0};
        for (int i = 0; i < sentences.length; i++) {
            int what = i;
            t.test(sentences[what], () -> {
                t.due("count", x.count(what), due[what]);
                t.due("a new object", new ColumnsLevelled().count(what), empty[what]);
            });
        }
        t.test("10 to 17: SETTINGS.", () ->
            each("count", i -> x.count(10 + i), 4, 20, 4, 5, 6, 2, 7, 8));
        t.test("NONE for others.", () -> {
            for (int what : new int[] {Integer.MIN_VALUE, -1, 8, 9, 18, Integer.MAX_VALUE}) {
                t.due("count " + what, x.count(what), NONE);
            }
        });
    }
}
