/** Each promise of the document by itself; the answers that are due were found by hand. */
public final class PromisesTest {

    private static final int NONE = ColumnsLevelled.NONE;
    private static int wrong = 0;
    private static int asked = 0;
    private static int promise = 0;

    private static void due(String call, int got, int want) {
        asked++;
        if (got != want) {
            wrong++;
            System.out.println("promise " + promise + ": " + call + " answered " + got + ", due is " + want);
        }
    }

    private static void due(String calls, int[] got, int... want) {
        for (int i = 0; i < want.length; i++) {
            due(calls + " [" + i + "]", got[i], want[i]);
        }
    }

    private static void fault(String text, int place, int code) {
        due("tell " + text, Texts.tell(new ColumnsLevelled(), text), -2 - (8 * place + code));
    }

    private static void told(String text, int pieces) {
        due("tell " + text, Texts.tell(new ColumnsLevelled(), text), pieces);
    }

    public static void main(String[] args) {
        newObject();
        feed();
        end();
        tellTexts();
        tellFaults();
        tellWords();
        tellLimits();
        tellState();
        set();
        tieAndSpace();
        swapAgainDrop();
        undo();
        shelves();
        block();
        piece();
        section();
        pour();
        pourStuck();
        pourSpans();
        notes();
        tables();
        where();
        fitsAndLeast();
        reach();
        trial();
        costs();
        tall();
        loose();
        page();
        ways();
        untie();
        narrow();
        even();
        order();
        count();
        noneFirst();
        System.out.println(asked + " answers asked, " + wrong + " not as due");
        if (wrong != 0) {
            System.exit(1);
        }
    }

    private static void newObject() {
        promise = 1;
        ColumnsLevelled x = new ColumnsLevelled();
        for (int what = 0; what < 8; what++) {
            due("count " + what, x.count(what), 0);
        }
        int[] first = {2, 60, 2, 2, 2, 1, 1, 0};
        for (int what = 0; what < 8; what++) {
            due("count " + (10 + what), x.count(10 + what), first[what]);
        }
        due("block", x.block(0, 0), NONE);
        due("pour", x.pour(), 0);
        due("page", x.page(0, 0), NONE);
        due("section", x.section(0, 0), NONE);
    }

    private static void feed() {
        promise = 2;
        ColumnsLevelled x = new ColumnsLevelled();
        // "soli" "d 7 " and blanks
        due("feed", x.feed(0x736f6c69, 0x64203720, 0x20202020, 0x20202020, 0x20202020), 20);
        due("tell", x.tell(), 1);
        due("height", x.block(0, 3), 7);
        for (int i = 1; i <= 20; i++) {
            due("feed", x.feed(0x20202020, 0x20202020, 0x20202020, 0x20202020, 0x20202020), 20 * i);
        }
        due("feed", x.feed(1, 2, 3, 4, 5), NONE);
        due("count 5", x.count(5), 400);
        due("end", x.end(381), 381);
        due("feed", x.feed(1, 2, 3, 4, 5), NONE);
        due("end", x.end(380), 380);
        due("feed", x.feed(-1, 0x20202020, 0x20202020, 0x20202020, 0x20202020), 400);
        due("tell", x.tell(), -2 - (8 * 380 + 1));
    }

    private static void end() {
        promise = 3;
        ColumnsLevelled x = new ColumnsLevelled();
        due("end", x.end(0), 0);
        due("end", x.end(1), NONE);
        x.feed(0x736f6c69, 0x64203720, 0x3b3b3b3b, 0, 0);
        due("end", x.end(21), NONE);
        due("end", x.end(-1), NONE);
        due("count 5", x.count(5), 20);
        due("end", x.end(20), 20);
        due("end", x.end(7), 7);
        due("end", x.end(8), NONE);
        due("tell", x.tell(), 1);
    }

    private static void tellTexts() {
        promise = 4;
        told("", 0);
        told("    ", 0);
        told("columns 3", 0);
        told("lines 7 1", 7);
        told("lines7 1", 7);
        told("lines 7 1tied", 7);
        told("  lines   007 1whole   tied space0mark7 20mark1 1 ", 7);
        told("solid200;head30;span60;table9 30 9;lines30 9", 62);
        told("solid 1 ; solid 2 ;columns 5; solid 3", 3);
        told("lines 5 1 mark 1 1 mark 2 1 mark 3 1 mark 4 1", 5);
        told("table 0 2 1 tied space 30", 2);
        told("columns 5;height 400;orphans 9;widows 9;follow 9;note 3;rule 9;room 60", 0);
        told("columns 1;height 10;orphans 1;widows 1;follow 0;note 1;rule 0;room 0", 0);
    }

    private static void tellFaults() {
        promise = 4;
        fault(";", 0, 1);
        fault("  ;", 2, 1);
        fault("lines", 5, 1);
        fault("lines 7", 7, 1);
        fault("lines 7 ", 8, 1);
        fault("lines 7;", 7, 1);
        fault("solid 3;", 8, 1);
        fault("solid 3;;solid 3", 8, 1);
        fault("solid 3;  ", 10, 1);
        fault("solid 3 4", 8, 1);
        fault("columns 3 4", 10, 1);
        fault("columns 3 tied", 10, 1);
        fault("Lines 7 1", 0, 1);
        fault("line 7 1", 0, 1);
        fault("liness 7 1", 0, 1);
        fault("lines tied 7 1", 6, 1);
        fault("tied", 0, 1);
        fault("7", 0, 1);
        fault("solid 3!", 7, 1);
        fault("solid 3 \u00e9", 8, 1);
        fault("solid 3\t", 7, 1);
        fault("solid 3 whole", 8, 1);
        fault("table 1 2 3 whole", 12, 1);
        fault("head 3 mark 1 1", 7, 1);
        fault("span 3 tied", 7, 1);
        fault("span 3 space 1", 7, 1);
        fault("lines 3 1 tiedwhole", 10, 1);
        fault("lines 3 1 mark 1", 16, 1);
        fault("lines 3 1 space tied", 16, 1);
        fault("lines 3 1 lines 3 1", 10, 1);
        fault("solidz 3", 0, 1);
        fault("zsolid 3", 0, 1);
        fault("asolid 3", 0, 1);
        fault("solid{3", 5, 1);
        fault("solid`3", 5, 1);
        fault("solid 3:", 7, 1);
        fault("solid 3/", 7, 1);
        fault("solid 9x", 7, 1);
        fault("solid 0x", 6, 2);
        fault("lines 0 1", 6, 2);
        fault("lines 31 1", 6, 2);
        fault("lines 7 0", 8, 2);
        fault("lines 7 10", 8, 2);
        fault("lines 99999999999999999999999 1", 6, 2);
        fault("lines 4294967297 1", 6, 2);
        fault("solid 0", 6, 2);
        fault("solid 201", 6, 2);
        fault("head 31", 5, 2);
        fault("span 61", 5, 2);
        fault("span 0", 5, 2);
        fault("table 10 1 1", 6, 2);
        fault("table 9 31 1", 8, 2);
        fault("table 9 30 10", 11, 2);
        fault("columns 6", 8, 2);
        fault("columns 0", 8, 2);
        fault("height 9", 7, 2);
        fault("height 401", 7, 2);
        fault("orphans 10", 8, 2);
        fault("widows 0", 7, 2);
        fault("follow 10", 7, 2);
        fault("note 4", 5, 2);
        fault("note 0", 5, 2);
        fault("rule 10", 5, 2);
        fault("room 61", 5, 2);
        fault("lines 3 1 space 31", 16, 2);
        fault("lines 3 1 mark 4 1", 15, 2);
        fault("lines 3 1 mark 0 1", 15, 2);
        fault("lines 3 1 mark 1 0", 17, 2);
        fault("lines 3 1 mark 1 21", 17, 2);
        fault("lines 3 1 mark 1 1 mark 1 2", 24, 2);
        fault("columns 2;columns 3", 10, 3);
        fault("columns 2;solid 1;columns x", 18, 3);
        fault("room 2;solid 1 tied;solid 2;room 2", 28, 3);
        fault("height 20;solid 1;solid 1;height 20", 26, 3);
        fault("lines 3 1 tied tied", 15, 3);
        fault("lines 3 1 whole whole", 16, 3);
        fault("lines 3 1 space 1 space 1", 18, 3);
        fault("lines 5 1 mark 1 1 mark 2 1 mark 3 1 mark 4 1 mark 9 99", 46, 3);
    }

    /** Each WORD is that WORD alone: with another letter, one more or one less it is none. */
    private static void tellWords() {
        promise = 4;
        String[] texts = {"|columns| 3", "|height| 30", "|orphans| 3", "|widows| 3", "|follow| 3", "|note| 3", "|rule| 3",
            "|room| 3", "|lines| 3 3", "|solid| 3", "|head| 3", "|table| 3 3 3", "|span| 3", "lines 3 3 |tied|",
            "lines 3 3 |whole|", "head 3 |space| 3", "lines 3 3 |mark| 3 3"};
        for (String text : texts) {
            String[] parts = text.split("\\|", -1);
            int place = parts[0].length();
            String word = parts[1];
            due("tell " + text, Texts.tell(new ColumnsLevelled(), text.replace("|", "")) >= 0 ? 1 : 0, 1);
            for (int i = 0; i < word.length(); i++) {
                char other = word.charAt(i) == 'z' ? 'y' : (char) (word.charAt(i) + 1);
                fault(parts[0] + word.substring(0, i) + other + word.substring(i + 1) + parts[2], place, 1);
                fault(parts[0] + word.substring(0, i) + word.substring(i + 1) + parts[2], place, 1);
            }
            fault(parts[0] + word + "s" + parts[2], place, 1);
        }
    }

    private static void tellLimits() {
        promise = 4;
        String spans = "span 1;".repeat(16);
        told(spans.substring(0, 111), 0);
        fault(spans + "span 1", 112, 3);
        fault(spans + "lines 99", 112, 3);
        fault(spans + "tied", 112, 1);
        told(spans + "columns 1", 0);
        String full = "lines 30 1;lines 30 1;lines 30 1;";
        told(full + "span 1", 90);
        told("lines 30 1;lines 30 1;table 0 29 1;solid 1", 90);
        fault(full + "solid 1", 33, 3);
        fault(full + "head 1", 33, 3);
        fault(full + "solid 999", 33, 3);
        fault(full + "lines 1 1", 39, 3);
        fault(full + "lines 31 1", 39, 2);
        fault(full + "table 0 1 1", 41, 3);
        fault(full + "table 99 1 1", 39, 2);
        // the TAPE's last byte is its 400th, and the TEXT ends behind it
        fault("solid 1;" + " ".repeat(392), 400, 1);
        told(" ".repeat(393) + "solid 1", 1);
    }

    private static void tellState() {
        promise = 4;
        ColumnsLevelled x = Texts.of("columns 3;lines 4 2;solid 5");
        x.keep(1);
        x.set(0, 4);
        due("tell", Texts.tell(x, "solid 3;height 9"), -2 - (8 * 15 + 2));
        due("tape", x.count(5), 0);
        due("acts", x.count(4), 1);
        due("blocks", x.count(0), 2);
        due("columns", x.count(10), 4);
        due("tell", Texts.tell(x, "head 4"), 1);
        due("tape", x.count(5), 0);
        due("acts", x.count(4), 0);
        due("undo", x.undo(), NONE);
        due("columns as at first", x.count(10), 2);
        due("shelves", x.count(6), 2);
        due("tell of an empty tape", x.tell(), 0);
        due("blocks", x.count(0), 0);
        due("back", x.back(1), 2);
        due("columns", x.count(10), 3);
    }

    private static void set() {
        promise = 5;
        ColumnsLevelled x = new ColumnsLevelled();
        int[] first = {2, 60, 2, 2, 2, 1, 1, 0};
        int[] least = {1, 10, 1, 1, 0, 1, 0, 0};
        int[] most = {5, 400, 9, 9, 9, 3, 9, 60};
        for (int what = 0; what < 8; what++) {
            due("set " + what, x.set(what, first[what]), -2);
            due("set " + what, x.set(what, least[what] - 1), NONE);
            due("set " + what, x.set(what, most[what] + 1), NONE);
        }
        due("acts", x.count(4), 0);
        for (int what = 0; what < 8; what++) {
            due("set " + what, x.set(what, most[what]), first[what]);
            due("count " + what, x.count(10 + what), most[what]);
            int now = x.set(what, least[what]);
            due("set " + what, now, most[what]);
            due("set " + what, x.set(what, least[what]), -2);
        }
        due("acts", x.count(4), 10);
        due("set -1", x.set(-1, 1), NONE);
        due("set 8", x.set(8, 1), NONE);
    }

    private static void tieAndSpace() {
        promise = 6;
        ColumnsLevelled x = Texts.of("columns 2;solid 5 tied;span 3;solid 5;solid 6");
        due("tie", x.tie(0, true), -2);
        due("tie", x.tie(0, false), 1);
        due("tie", x.tie(0, false), -2);
        due("tie", x.tie(1, true), NONE);
        due("tie", x.tie(1, false), NONE);
        due("tie", x.tie(-1, true), NONE);
        due("tie", x.tie(4, true), NONE);
        due("least", x.least(1), 6);
        due("tie", x.tie(2, true), 1);
        due("block", x.block(2, 5), 1);
        due("least", x.least(1), 11);
        due("acts", x.count(4), 2);
        promise = 7;
        due("space", x.space(3, 4), 0);
        due("least", x.least(1), 15);
        due("space", x.space(3, 4), -2);
        due("space", x.space(3, 30), 4);
        due("space", x.space(3, 31), NONE);
        due("space", x.space(3, -1), NONE);
        due("space", x.space(1, 1), NONE);
        due("space", x.space(4, 1), NONE);
        due("space", x.space(3, 0), 30);
        due("block", x.block(3, 7), 0);
        due("acts", x.count(4), 5);
    }

    private static void swapAgainDrop() {
        promise = 8;
        ColumnsLevelled x = Texts.of("lines 3 2 tied whole space 4 mark 1 5 mark 3 6;span 7;table 1 2 3");
        due("swap", x.swap(0, 0), NONE);
        due("swap", x.swap(0, 3), NONE);
        due("swap", x.swap(-1, 0), NONE);
        due("acts", x.count(4), 0);
        due("swap", x.swap(0, 1), 1);
        int[] lines = new int[9];
        for (int what = 0; what < 9; what++) {
            lines[what] = x.block(1, what);
        }
        due("block", lines, 0, 3, 0, 2, 0, 1, 1, 4, 2);
        due("span", x.block(0, 3), 7);
        due("note", x.piece(2, 4), 6);
        due("sections", x.section(0, 1), 0);
        due("swap", x.swap(2, 1), 1);
        due("table", x.block(1, 0), 3);
        due("first", x.block(2, 2), 2);
        promise = 9;
        due("again", x.again(3), NONE);
        due("again", x.again(-1), NONE);
        due("again", x.again(2), 4);
        due("marks", x.block(3, 8), 2);
        due("note", x.piece(5, 4), 5);
        due("tied", x.block(3, 5), 1);
        due("acts", x.count(4), 3);
        ColumnsLevelled full = Texts.of("lines 30 1;lines 30 1;lines 29 1;solid 1;span 1");
        due("again", full.again(3), -2);
        due("again", full.again(0), -2);
        due("acts", full.count(4), 0);
        for (int i = 6; i <= 16; i++) {
            due("again", full.again(4), i);
        }
        due("again", full.again(4), -2);
        due("again", full.again(16), NONE);
        promise = 10;
        due("drop", full.drop(16), NONE);
        due("drop", full.drop(-1), NONE);
        due("drop", full.drop(1), 15);
        due("pieces", full.count(1), 60);
        due("kind", full.block(2, 0), 1);
        due("drop", full.drop(14), 14);
        ColumnsLevelled one = Texts.of("solid 1");
        due("drop", one.drop(0), 0);
        due("drop", one.drop(0), NONE);
        due("pour", one.pour(), 0);
        due("sections", one.count(2), 0);
    }

    private static void undo() {
        promise = 11;
        ColumnsLevelled x = Texts.of("solid 5;solid 6 space 3;lines 4 1");
        due("undo", x.undo(), NONE);
        x.set(0, 3);
        x.tie(1, true);
        x.space(1, 9);
        x.swap(0, 2);
        x.again(0);
        x.drop(1);
        due("undo the drop", x.undo(), 5);
        due("blocks", x.count(0), 4);
        due("space", x.block(1, 7), 9);
        due("undo again", x.undo(), 4);
        due("blocks", x.count(0), 3);
        due("undo swap", x.undo(), 3);
        due("kind", x.block(0, 0), 1);
        due("undo space", x.undo(), 2);
        due("space", x.block(1, 7), 3);
        due("undo tie", x.undo(), 1);
        due("tied", x.block(1, 5), 0);
        due("undo set", x.undo(), 0);
        due("columns", x.count(10), 2);
        due("undo", x.undo(), NONE);
        for (int i = 1; i <= 12; i++) {
            x.set(1, 60 + i);
        }
        due("acts", x.count(4), 10);
        for (int i = 9; i >= 0; i--) {
            due("undo", x.undo(), i);
            due("height", x.count(11), 62 + i);
        }
        due("undo", x.undo(), NONE);
        due("height", x.count(11), 62);
    }

    private static void shelves() {
        promise = 12;
        ColumnsLevelled x = Texts.of("solid 5;solid 6");
        due("keep", x.keep(2), NONE);
        due("keep", x.keep(-1), NONE);
        due("keep", x.keep(0), 2);
        due("shelves", x.count(6), 1);
        x.set(4, 7);
        x.drop(0);
        due("keep", x.keep(1), 1);
        due("shelves", x.count(6), 3);
        due("acts", x.count(4), 2);
        promise = 13;
        due("back", x.back(0), 2);
        due("acts", x.count(4), 0);
        due("follow", x.count(14), 2);
        due("height", x.block(0, 3), 5);
        due("back", x.back(1), 1);
        due("follow", x.count(14), 7);
        due("height", x.block(0, 3), 6);
        x.again(0);
        due("back", x.back(2), NONE);
        due("back", x.back(-1), NONE);
        due("acts", x.count(4), 1);
        due("back again", x.back(1), 1);
        ColumnsLevelled y = new ColumnsLevelled();
        due("back", y.back(1), -2);
        y.set(0, 1);
        due("back", y.back(0), -2);
        due("acts", y.count(4), 1);
        due("keep nothing", y.keep(0), 0);
        due("back", y.back(0), 0);
    }

    private static void block() {
        promise = 14;
        ColumnsLevelled x = Texts.of("lines 3 2 whole mark 2 1;solid 150 tied;head 9 space 3;span 50;table 8 4 7");
        int[][] want = {{0, 3, 0, 2, 0, 0, 1, 0, 1}, {1, 1, 3, 150, 0, 1, 0, 0, 0}, {2, 1, 4, 9, 0, 0, 0, 3, 0},
            {4, 0, 5, 50, 0, 0, 0, 0, 0}, {3, 4, 5, 7, 8, 0, 0, 0, 0}};
        for (int b = 0; b < 5; b++) {
            for (int what = 0; what < 9; what++) {
                due("block " + b + " " + what, x.block(b, what), want[b][what]);
            }
        }
        due("block", x.block(5, 0), NONE);
        due("block", x.block(-1, 0), NONE);
        due("block", x.block(0, 9), NONE);
        due("block", x.block(0, -1), NONE);
    }

    private static void piece() {
        promise = 15;
        ColumnsLevelled x = Texts.of("head 3 space 2;lines 6 1 space 4 mark 6 7;span 2;table 5 3 2 tied space 1;solid 8");
        int[][] want = {{0, 0, 3, 2, 0, 0, 0}, {1, 0, 1, 4, 0, 0, 0}, {1, 1, 1, 0, 0, 1, 0}, {1, 2, 1, 0, 0, 1, 0},
            {1, 3, 1, 0, 0, 1, 0}, {1, 4, 1, 0, 0, 0, 0}, {1, 5, 1, 0, 7, 1, 0}, {2 + 1, 0, 7, 1, 0, 1, 1},
            {3, 1, 2, 0, 0, 1, 1}, {3, 2, 2, 0, 0, 0, 1}, {4, 0, 8, 0, 0, 1, 1}};
        for (int p = 0; p < want.length; p++) {
            for (int what = 0; what < 7; what++) {
                due("piece " + p + " " + what, x.piece(p, what), want[p][what]);
            }
        }
        due("piece", x.piece(11, 0), NONE);
        due("piece", x.piece(-1, 0), NONE);
        due("piece", x.piece(0, 7), NONE);
        due("piece", x.piece(0, -1), NONE);
        x.set(4, 4);
        due("follow 4: line 3", x.piece(3, 5), 0);
        due("follow 4: line 4", x.piece(4, 5), 1);
        x.swap(0, 2);
        due("a head behind the span: line 2 of the first section", x.piece(1, 5), 1);
        x.set(3, 5);
        due("widows 5: line 1", x.piece(0, 5), 0);
        x.set(2, 1);
        due("orphans 1: line 1", x.piece(0, 5), 1);
        due("orphans 1: line 2", x.piece(1, 5), 0);
    }

    private static void section() {
        promise = 16;
        ColumnsLevelled x = Texts.of("span 5;lines 6 1 mark 1 3 mark 4 4;solid 3 tied;solid 4;span 6;span 7;head 2");
        int[][] want = {{0, 0, 0, 1, 0}, {0, 8, 5, 6, 7}, {8, 8, 6, 1, 0}, {8, 9, 7, 2, 0}};
        for (int s = 0; s < 4; s++) {
            for (int what = 0; what < 5; what++) {
                due("section " + s + " " + what, x.section(s, what), want[s][what]);
            }
        }
        due("section", x.section(4, 0), NONE);
        due("section", x.section(-1, 0), NONE);
        due("section", x.section(0, 5), NONE);
        due("section", x.section(0, -1), NONE);
    }

    private static void pour() {
        promise = 17;
        ColumnsLevelled x = Texts.of("columns 2;height 10;orphans 1;widows 1;lines 25 1");
        due("pour", x.pour(), 2);
        promise = 18;
        due("columns", x.column(NONE, 0), 4);
        due("column 0", Texts.column(x, 0), 0, 0, 0, 0, 10, 10, 0, 0, 0, 0, 10, 0);
        due("column 1", Texts.column(x, 1), 0, 1, 0, 10, 20, 10, 0, 0, 0, 0, 10, 0);
        due("column 2", Texts.column(x, 2), 1, 0, 0, 20, 23, 3, 0, 0, 0, 0, 3, 1);
        due("column 3", Texts.column(x, 3), 1, 1, 0, 23, 25, 2, 0, 0, 0, 0, 3, 1);
        due("column", x.column(4, 0), NONE);
        due("column", x.column(NONE, 1), NONE);
        due("column", x.column(-2, 0), NONE);
        due("column", x.column(0, 12), NONE);
        due("column", x.column(0, -1), NONE);
        promise = 17;
        due("only a span", Texts.of("span 3").pour(), 1);
        due("an empty text", Texts.of("columns 3").pour(), 0);
        // the first column as late as the rest still fits, columns without pieces behind
        ColumnsLevelled y = Texts.of("columns 4;orphans 1;widows 1;solid 6;lines 8 1");
        due("pour", y.pour(), 1);
        due("column 0", Texts.column(y, 0), 0, 0, 0, 0, 1, 6, 0, 0, 0, 0, 6, 1);
        due("column 1", Texts.column(y, 1), 0, 1, 0, 1, 7, 6, 0, 0, 0, 0, 6, 1);
        due("column 2", Texts.column(y, 2), 0, 2, 0, 7, 9, 2, 0, 0, 0, 0, 6, 1);
        due("column 3", Texts.column(y, 3), 0, 3, 0, 9, 9, 0, 0, 0, 0, 0, 6, 1);
    }

    private static void pourStuck() {
        promise = 17;
        ColumnsLevelled x = Texts.of("columns 1;height 10;lines 5 1;solid 11");
        due("pour", x.pour(), -7);
        due("columns", x.column(NONE, 0), 1);
        due("where", x.where(4, 0), 0);
        due("where", x.where(5, 0), -2);
        due("where", x.where(5, 3), NONE);
        due("stuck at once", Texts.of("height 10;solid 11").pour(), -2);
        // one line a page, behind page 39 something is left over
        ColumnsLevelled y = Texts.of("columns 1;height 10;orphans 1;widows 1;lines 30 9;lines 30 9");
        due("pour", y.pour(), -42);
        due("columns", y.column(NONE, 0), 40);
        due("where", Texts.where(y, 39), 39, 39, 0);
        due("where", y.where(40, 1), -2);
        // forty pages are poured, a span has room on the last or comes behind it
        ColumnsLevelled z = Texts.of("columns 1;height 10;orphans 1;widows 1;lines 30 9;lines 10 9;span 1;span 1");
        due("pour", z.pour(), -42);
        due("span", z.span(0, 0), 39);
        due("span", z.span(0, 1), 9);
        due("span", z.span(1, 0), -2);
        z.drop(3);
        due("pour", z.pour(), 40);
        z.set(7, 1);
        due("pour", z.pour(), -42);
        // eleven columns for each line's note, five on each page: a line's last column is the 198th
        ColumnsLevelled w = Texts.of("columns 5;height 10;rule 8;orphans 1;widows 1;"
            + "lines 4 1 mark 1 20 mark 2 20 mark 3 20 mark 4 20");
        for (int i = 2; i <= 6; i++) {
            w.again(0);
        }
        due("pour", w.pour(), -2 - 19);
        due("columns", w.column(NONE, 0), 200);
        due("column 198", Texts.column(w, 198), 39, 3, 0, 18, 19, 1, 0, 20, 1, 0, 10, 0);
        due("column 199", Texts.column(w, 199), 39, 4, 0, 19, 19, 0, 19, 0, 2, 0, 10, 0);
        // eleven pages for each line's note, the fourth one's goes on behind page 39
        ColumnsLevelled n = Texts.of("columns 1;height 10;rule 8;orphans 1;widows 1;"
            + "lines 4 1 mark 1 20 mark 2 20 mark 3 20 mark 4 20");
        due("pour at the section's end", n.pour(), -6);
        due("note", n.note(3, 2), 1);
        due("note", n.note(3, 3), 7);
        due("note", n.note(2, 3), 11);
        due("where", n.where(3, 0), 33);
        due("column", Texts.column(n, 39), 39, 0, 0, 4, 4, 0, 9, 0, 2, 0, 10, 0);
    }

    private static void pourSpans() {
        promise = 21;
        ColumnsLevelled x = Texts.of("height 10;columns 2;room 3;orphans 1;widows 1;"
            + "lines 8 1;span 2;lines 4 1;span 4;solid 1;span 60;solid 1");
        due("pour", x.pour(), 4);
        int[][] spans = {{0, 4}, {1, 0}, {2, 0}};
        for (int k = 0; k < 3; k++) {
            due("span " + k, x.span(k, 0), spans[k][0]);
            due("span " + k, x.span(k, 1), spans[k][1]);
        }
        due("span", x.span(3, 0), NONE);
        due("span", x.span(-1, 0), NONE);
        due("span", x.span(0, 2), NONE);
        due("span", x.span(0, -1), NONE);
        promise = 18;
        due("column 2", Texts.column(x, 2), 0, 0, 1, 8, 10, 2, 0, 0, 0, 6, 2, 1);
        due("column 5", Texts.column(x, 5), 1, 1, 2, 13, 13, 0, 0, 0, 0, 4, 1, 1);
        due("column 6", Texts.column(x, 6), 3, 0, 3, 13, 14, 1, 0, 0, 0, 0, 1, 1);
        promise = 17;
        x.set(7, 4);
        due("span on the free rest", x.span(0, 0), 0);
        x.set(7, 5);
        due("no room for what comes behind", x.span(0, 0), 1);
        // filled below a span, as much as is free there
        ColumnsLevelled y = Texts.of("height 10;columns 1;orphans 1;widows 1;span 6;lines 9 1");
        due("pour", y.pour(), 2);
        due("column 0", Texts.column(y, 0), 0, 0, 1, 0, 4, 4, 0, 0, 0, 6, 4, 0);
        due("column 1", Texts.column(y, 1), 1, 0, 1, 4, 9, 5, 0, 0, 0, 0, 5, 1);
        // nothing has room below the span: no columns there
        ColumnsLevelled z = Texts.of("height 10;columns 2;span 6;solid 5");
        due("pour", z.pour(), 2);
        due("columns", z.column(NONE, 0), 2);
        due("column 0", z.column(0, 0), 1);
    }

    private static void notes() {
        promise = 20;
        ColumnsLevelled x = Texts.of("columns 3;height 10;orphans 1;widows 1;rule 1;note 2;lines 6 1 mark 2 7");
        due("pour", x.pour(), 1);
        due("column 0", Texts.column(x, 0), 0, 0, 0, 0, 5, 5, 0, 7, 1, 0, 8, 1);
        due("column 1", Texts.column(x, 1), 0, 1, 0, 5, 6, 1, 6, 0, 3, 0, 8, 1);
        due("column 2", Texts.column(x, 2), 0, 2, 0, 6, 6, 0, 3, 0, 3, 0, 8, 1);
        due("note", x.note(NONE, 0), 1);
        due("note", x.note(NONE, 1), NONE);
        due("note", x.note(0, 0), 1);
        due("note", x.note(0, 1), 7);
        due("note", x.note(0, 2), 1);
        due("note", x.note(0, 3), 3);
        due("note", x.note(0, 4), NONE);
        due("note", x.note(0, -1), NONE);
        due("note", x.note(1, 0), NONE);
        due("note", x.note(-2, 0), NONE);
        // marks told in another order: notes go by pieces
        ColumnsLevelled y = Texts.of("columns 1;height 40;lines 6 1 mark 5 2 mark 2 3;lines 2 1 mark 1 20");
        due("pour", y.pour(), 1);
        due("note", y.note(0, 0), 1);
        due("note", y.note(1, 1), 2);
        due("note", y.note(2, 2), 20);
        due("note", y.note(1, 3), 1);
        // a note that goes on over pages; what is left over by its mark's column stands ahead of others
        ColumnsLevelled z = Texts.of("columns 1;height 10;rule 0;lines 1 1 mark 1 20");
        due("pour", z.pour(), 3);
        due("column 1", Texts.column(z, 1), 1, 0, 0, 1, 1, 0, 11, 0, 10, 0, 10, 0);
        due("column 2", Texts.column(z, 2), 2, 0, 0, 1, 1, 0, 1, 0, 1, 0, 1, 1);
        due("note", z.note(0, 2), 9);
        due("note", z.note(0, 3), 3);
        // nowhere
        ColumnsLevelled w = Texts.of("columns 1;height 10;rule 9;lines 1 1 mark 1 1");
        due("pour", w.pour(), -2);
        due("note", w.note(0, 2), -2);
        due("note", w.note(0, 3), -2);
        due("note", w.note(0, 1), 1);
        w.set(6, 8);
        due("pour", w.pour(), 1);
        due("note", w.note(0, 2), 1);
    }

    private static void tables() {
        promise = 18;
        ColumnsLevelled x = Texts.of("columns 2;table 2 5 2");
        due("pour", x.pour(), 1);
        due("column 0", Texts.column(x, 0), 0, 0, 0, 0, 3, 8, 0, 0, 0, 0, 8, 1);
        due("column 1", Texts.column(x, 1), 0, 1, 0, 3, 5, 6, 0, 0, 0, 0, 8, 1);
        promise = 19;
        due("where", Texts.where(x, 0), 0, 0, 0);
        due("where", Texts.where(x, 1), 0, 0, 4);
        due("where", Texts.where(x, 3), 0, 1, 2);
        due("where", Texts.where(x, 4), 0, 1, 4);
        promise = 23;
        due("least", x.least(0), 8);
        promise = 24;
        due("reach", x.reach(0, 1, 7), 2);
        due("reach", x.reach(0, 1, 8), 3);
        promise = 30;
        due("ways", x.ways(0, 7), 0);
        due("ways", x.ways(0, 8), 2);
        due("ways", x.ways(0, 10), 4);
        due("ways", x.ways(0, 12), 6);
        promise = 32;
        due("narrow", x.narrow(0, 12), 1);
        due("narrow", x.narrow(0, 8), 2);
        due("narrow", x.narrow(0, 6), 3);
        due("narrow", x.narrow(0, 5), 5);
        due("narrow", x.narrow(0, 3), -2);
    }

    private static void where() {
        promise = 19;
        ColumnsLevelled x = Texts.of("columns 2;height 20;head 3 space 9;lines 4 1 space 2;span 1;solid 5 space 7;solid 6 space 4");
        due("a space vanishes at the column's head", x.where(0, 2), 0);
        due("where", Texts.where(x, 1), 0, 0, 5);
        due("least", x.least(0), 7);
        due("where", Texts.where(x, 3), 0, 1, 0);
        due("where", Texts.where(x, 4), 0, 1, 1);
        due("where", Texts.where(x, 5), 0, 2, 0);
        due("where", Texts.where(x, 6), 0, 3, 0);
        x.set(0, 1);
        due("filled below the span", Texts.where(x, 5), 0, 1, 0);
        due("where", Texts.where(x, 6), 1, 2, 0);
        x.set(1, 30);
        due("where", Texts.where(x, 6), 0, 1, 9);
        due("where", x.where(7, 0), NONE);
        due("where", x.where(-1, 0), NONE);
        due("where", x.where(0, 3), NONE);
        due("where", x.where(0, -1), NONE);
    }

    private static void fitsAndLeast() {
        promise = 22;
        ColumnsLevelled x = Texts.of("columns 2;orphans 3;widows 3;lines 7 2;span 4;head 2;solid 9;span 1");
        due("fits", x.fits(0, 7), 0);
        due("fits", x.fits(0, 8), 1);
        due("fits", x.fits(1, 10), 0);
        due("fits", x.fits(1, 11), 1);
        due("fits", x.fits(1, 2000), 1);
        due("a section of no pieces", x.fits(2, 0), 1);
        due("fits", x.fits(3, 1), NONE);
        due("fits", x.fits(-1, 1), NONE);
        due("fits", x.fits(0, -1), NONE);
        due("fits", x.fits(0, 2001), NONE);
        promise = 23;
        due("least", x.least(0), 8);
        due("least", x.least(1), 11);
        due("least", x.least(2), 0);
        due("least", x.least(3), NONE);
        due("least", x.least(-1), NONE);
        ColumnsLevelled y = Texts.of("columns 1;" + "solid 200;".repeat(9) + "solid 200");
        due("least", y.least(0), 2000);
        y.again(0);
        due("least", y.least(0), -2);
        y.set(0, 2);
        due("least", y.least(0), 1200);
        // all notes but the last stand by their marks, and of that one line
        ColumnsLevelled z = Texts.of("columns 1;rule 3;note 2;lines 4 1 mark 1 4 mark 3 5");
        due("least", z.least(0), 4 + 3 + 18);
        z.set(0, 2);
        // two lines with 4 note lines, two lines with 5
        due("least", z.least(0), 2 + 3 + 10);
        z.set(2, 4);
        // four lines with 5 note lines, then 4 lines of the last note
        due("least", z.least(0), 4 + 3 + 10);
        due("fits", z.fits(0, 16), 0);
    }

    private static void reach() {
        promise = 24;
        ColumnsLevelled x = Texts.of("columns 2;orphans 1;widows 1;lines 4 1 mark 2 5;solid 6;span 3");
        due("no line of the note has room", x.reach(0, 1, 3), 1);
        due("reach", x.reach(0, 1, 4), 2);
        due("reach", x.reach(0, 1, 5), 3);
        due("reach", x.reach(0, 1, 6), 4);
        // one line and the mark's, or two and two behind a rule and a carried line
        due("reach", x.reach(0, 2, 4), 4);
        due("reach", x.reach(0, 1, 0), 0);
        due("reach", x.reach(0, 5, 2000), 5);
        due("a section of no pieces", x.reach(1, 3, 0), 5);
        // only the first column's end behind line 2 leaves nothing for the third one to bear
        ColumnsLevelled y = Texts.of("note 3;rule 1;orphans 1;widows 2;lines 7 1 tied mark 2 4;lines 6 1 mark 1 7");
        due("the least carried counts", y.reach(0, 3, 9), 9);
        due("reach", x.reach(0, 0, 5), NONE);
        due("reach", x.reach(0, 6, 5), NONE);
        due("reach", x.reach(0, 1, -1), NONE);
        due("reach", x.reach(0, 1, 2001), NONE);
        due("reach", x.reach(2, 1, 5), NONE);
        due("reach", x.reach(-1, 1, 5), NONE);
    }

    private static void trial() {
        promise = 25;
        ColumnsLevelled x = Texts.of("columns 1;height 10;lines 5 1;solid 11");
        due("trial", x.trial(1, 10), -7);
        due("trial", x.trial(1, 11), 2);
        due("trial", x.trial(1, 16), 1);
        due("trial", x.trial(0, 5), -7);
        due("trial", x.trial(1, 9), NONE);
        due("trial", x.trial(1, 401), NONE);
        due("trial", x.trial(8, 1), NONE);
        due("trial", x.trial(-1, 1), NONE);
        due("pour", x.pour(), -7);
        due("height", x.count(11), 10);
        due("acts", x.count(4), 0);
        due("the room of a span", Texts.of("height 10;columns 1;solid 5;span 5").trial(7, 1), 2);
    }

    private static void costs() {
        promise = 26;
        ColumnsLevelled x = Texts.of("columns 2;orphans 3;widows 3;lines 5 1;span 1;solid 5 tied;solid 5;span 1;lines 8 1 whole");
        due("orphans", x.costs(0, 0), 2);
        due("widows", x.costs(0, 1), 2);
        due("widows 1, not 2", Texts.of("columns 2;orphans 3;widows 3;lines 4 1").costs(0, 1), 1);
        due("orphans 1, not 2", Texts.of("columns 2;orphans 3;widows 3;lines 4 1").costs(0, 0), 1);
        due("follow", x.costs(0, 2), 0);
        due("tied", x.costs(1, 3), 5);
        due("whole", x.costs(1, 4), 0);
        due("whole", x.costs(2, 4), 4);
        due("costs", x.costs(3, 0), NONE);
        due("costs", x.costs(-1, 0), NONE);
        due("costs", x.costs(0, 5), NONE);
        due("costs", x.costs(0, -1), NONE);
        due("still tied", x.block(2, 5), 1);
        due("follow", Texts.of("columns 2;orphans 1;widows 1;follow 9;head 1;lines 9 1").costs(0, 2), 5);
        due("no least", Texts.of("columns 1;" + "solid 200;".repeat(10) + "solid 200").costs(0, 3), -2);
    }

    private static void tall() {
        promise = 27;
        ColumnsLevelled x = Texts.of("columns 1;height 10;lines 5 1;solid 11");
        due("tall", x.tall(0), -2);
        due("tall", x.tall(1), 16);
        due("tall", x.tall(2), 11);
        due("tall", x.tall(40), 11);
        due("tall", x.tall(41), NONE);
        due("tall", x.tall(-1), NONE);
        due("height", x.count(11), 10);
        due("none", Texts.of("columns 1;solid 200;solid 200;solid 1").tall(1), -2);
        due("no blocks", new ColumnsLevelled().tall(0), 10);
        due("spans", Texts.of("span 7;span 7").tall(1), 14);
    }

    private static void loose() {
        promise = 28;
        ColumnsLevelled x = Texts.of("columns 2;height 10;orphans 1;widows 1;lines 25 1");
        due("loose", x.loose(0), 1);
        due("loose", x.loose(1), 1);
        due("loose", x.loose(2), 3);
        due("loose", x.loose(3), NONE);
        due("loose", x.loose(-1), NONE);
        ColumnsLevelled y = Texts.of("columns 3;rule 4;note 2;orphans 1;widows 1;lines 6 1 mark 6 2;lines 1 1");
        // 5 lines; 1 line, RULE, 1 note line; 1 line, RULE, 1 note line
        due("least", y.least(0), 7);
        due("loose", y.loose(0), 21 - 7 - 8 - 4);
        due("loose", y.loose(1), 2);
        due("loose", y.loose(2), 0);
        ColumnsLevelled z = Texts.of("columns 1;height 10;lines 5 1;solid 11");
        due("stuck", z.loose(0), -7);
        due("stuck", z.loose(2), -7);
        due("stuck", z.loose(3), NONE);
        ColumnsLevelled w = Texts.of("span 5");
        due("no columns", w.loose(0), 0);
        due("no columns", w.loose(1), 0);
        due("no columns", w.loose(2), -2);
        ColumnsLevelled v = Texts.of("columns 2;solid 3");
        due("of several the first", v.loose(2), 1);
        due("none unused", Texts.of("columns 2;solid 3;solid 3").loose(2), 0);
    }

    private static void page() {
        promise = 29;
        ColumnsLevelled x = Texts.of("height 10;columns 2;orphans 1;widows 1;lines 8 1 mark 8 2;span 2;solid 3;span 2;solid 5;span 1");
        // 6 lines beside 2 lines, RULE and 2 note lines; the last span comes where nothing is free
        due("pour", x.pour(), 3);
        due("page 0", Texts.page(x, 0), 2, 8, 1, 2, 1);
        due("page 1", Texts.page(x, 1), 4, 2, 1, 0, 2);
        due("page 2", Texts.page(x, 2), 0, 0, 1, 0, 0);
        due("page 3", Texts.page(x, 3), NONE, NONE, NONE, NONE, NONE);
        due("page", x.page(-1, 0), NONE);
        due("page", x.page(0, 5), NONE);
        due("page", x.page(0, -1), NONE);
        ColumnsLevelled y = Texts.of("columns 1;height 10;lines 5 1;solid 11");
        due("page 0", Texts.page(y, 0), 1, 5, 0, 0, 1);
        due("stuck on page 1", Texts.page(y, 1), 0, 0, 0, 0, 0);
        due("page 2", y.page(2, 0), NONE);
        ColumnsLevelled z = Texts.of("columns 1;height 10;orphans 1;widows 1;lines 30 9;lines 30 9");
        due("page 39", Texts.page(z, 39), 1, 1, 0, 0, 1);
        due("behind page 39", z.page(40, 0), NONE);
    }

    private static void ways() {
        promise = 30;
        ColumnsLevelled x = Texts.of("columns 3;orphans 1;widows 1;lines 3 1;span 1");
        due("ways", x.ways(0, 0), 0);
        due("ways", x.ways(0, 1), 1);
        due("ways", x.ways(0, 2), 7);
        due("ways", x.ways(0, 3), 10);
        due("ways", x.ways(0, 2000), 10);
        due("a section of no pieces", x.ways(1, 0), 1);
        due("ways", x.ways(2, 0), NONE);
        due("ways", x.ways(0, -1), NONE);
        due("ways", x.ways(0, 2001), NONE);
        due("most", Texts.of("columns 5;orphans 1;widows 1;lines 30 1;lines 30 1;lines 30 1").ways(0, 90), 3049501);
        // the note's second line may stand in the second column
        due("carried", Texts.of("columns 2;orphans 1;widows 1;lines 2 1 mark 1 2").ways(0, 3), 1);
        due("carried", Texts.of("columns 2;orphans 1;widows 1;lines 2 1 mark 1 2").ways(0, 4), 2);
        due("carried", Texts.of("columns 2;orphans 1;widows 1;lines 2 1 mark 1 2").ways(0, 5), 3);
    }

    private static void untie() {
        promise = 31;
        ColumnsLevelled x = Texts.of("columns 2;solid 5 tied;solid 5 tied;solid 5");
        due("it fits", x.untie(0, 15), 0);
        due("untie", x.untie(0, 10), 1);
        due("untie", x.untie(0, 9), -2);
        x.set(0, 3);
        due("untie", x.untie(0, 5), 3);
        due("untie", x.untie(0, 4), -2);
        due("tied still", x.block(0, 5), 1);
        due("bits of blocks", Texts.of("columns 2;span 1;solid 3 tied;solid 6 tied;solid 9").untie(1, 9), 4);
        String nine = "solid 1 tied;".repeat(9) + "solid 9";
        due("the ninth is not asked", Texts.of("columns 2;" + nine).untie(0, 9), -2);
        due("the eighth is", Texts.of("columns 2;" + nine).untie(0, 10), 128);
        due("others' ties are not", Texts.of("columns 2;solid 1 tied;span 1;solid 4 tied;solid 4").untie(1, 4), 4);
        due("nothing is tied", Texts.of("columns 2;solid 4;solid 4;solid 4").untie(0, 4), -2);
        due("untie", x.untie(1, 4), NONE);
        due("untie", x.untie(-1, 4), NONE);
        due("untie", x.untie(0, -1), NONE);
        due("untie", x.untie(0, 2001), NONE);
    }

    private static void narrow() {
        promise = 32;
        ColumnsLevelled x = Texts.of("columns 1;solid 5;solid 5;solid 5;solid 5;solid 5;span 1");
        due("narrow", x.narrow(0, 25), 1);
        due("narrow", x.narrow(0, 24), 2);
        due("narrow", x.narrow(0, 14), 3);
        due("narrow", x.narrow(0, 9), 5);
        due("narrow", x.narrow(0, 5), 5);
        due("narrow", x.narrow(0, 4), -2);
        due("a section of no pieces", x.narrow(1, 0), 1);
        due("narrow", x.narrow(2, 4), NONE);
        due("narrow", x.narrow(-1, 4), NONE);
        due("narrow", x.narrow(0, -1), NONE);
        due("narrow", x.narrow(0, 2001), NONE);
    }

    private static void even() {
        promise = 33;
        due("even", Texts.of("columns 3;height 10;orphans 1;widows 1;note 2;lines 6 1 mark 2 7").even(0), 1);
        ColumnsLevelled x = Texts.of("columns 3;height 10;solid 30;solid 20;span 1;lines 6 1;span 9");
        due("a column without anything", x.even(0), 30);
        due("even", x.even(1), 0);
        due("a section of no pieces", x.even(2), 0);
        due("even", x.even(3), NONE);
        due("even", x.even(-1), NONE);
        due("no least", Texts.of("columns 1;" + "solid 200;".repeat(10) + "solid 200").even(0), -2);
    }

    private static void order() {
        promise = 34;
        ColumnsLevelled x = Texts.of("columns 1;height 10;solid 8;solid 6;solid 7;solid 4");
        due("pour", x.pour(), 4);
        due("order", x.order(0), 1);
        due("order", x.order(1), 3);
        due("order", x.order(2), NONE);
        due("order", x.order(-1), NONE);
        due("kinds stay", x.block(1, 3), 6);
        due("one block", Texts.of("solid 1").order(0), -2);
        ColumnsLevelled stuck = Texts.of("height 10;solid 3;solid 11");
        due("stuck", stuck.order(0), -2);
        due("stuck", stuck.order(1), -2);
        ColumnsLevelled spans = Texts.of("height 10;columns 1;solid 6;span 6;solid 4");
        due("order", spans.order(0), 0);
        due("order", spans.order(1), 2);
        due("no change", Texts.of("height 10;solid 1;solid 1").order(1), 1);
    }

    private static void count() {
        promise = 35;
        ColumnsLevelled x = Texts.of("columns 3;lines 4 1 mark 1 1 mark 2 2;span 4;lines 2 1 mark 2 3;span 1");
        int[] want = {4, 6, 3, 3, 0, 0, 0, 2};
        for (int what = 0; what < 8; what++) {
            due("count " + what, x.count(what), want[what]);
        }
        x.keep(1);
        x.feed(0, 0, 0, 0, 0);
        x.set(0, 5);
        due("count 4", x.count(4), 1);
        due("count 5", x.count(5), 20);
        due("count 6", x.count(6), 2);
        due("count 10", x.count(10), 5);
        due("count 8", x.count(8), NONE);
        due("count 9", x.count(9), NONE);
        due("count 18", x.count(18), NONE);
        due("count -1", x.count(-1), NONE);
    }

    /** Where NONE and another answer fit, it is NONE. */
    private static void noneFirst() {
        promise = 13;
        due("back", new ColumnsLevelled().back(2), NONE);
        promise = 9;
        due("again", Texts.of("span 1;".repeat(15) + "span 1").again(16), NONE);
        promise = 19;
        due("where", Texts.of("height 10;solid 11").where(0, 9), NONE);
        promise = 20;
        due("note", Texts.of("height 10;rule 9;lines 1 9 mark 1 1").note(0, 9), NONE);
        promise = 21;
        due("span", Texts.of("height 10;solid 11;span 1").span(0, 2), NONE);
        due("span", Texts.of("height 10;solid 11;span 1").span(0, 1), -2);
        promise = 26;
        due("costs", Texts.of("columns 1;" + "solid 200;".repeat(10) + "solid 200").costs(0, 9), NONE);
        promise = 34;
        due("order", new ColumnsLevelled().order(5), NONE);
    }
}
