/** For each sentence of the document's "Terms" a test that fails if the sentence is broken. */
public final class TermSentencesTest {

    private static final int NONE = ColumnsLevelled.NONE;
    private static final String[] SETTINGS = {"columns", "height", "orphans", "widows", "follow", "note", "rule", "room"};
    private static final int[] FIRST = {2, 60, 2, 2, 2, 1, 1, 0};
    private static final int[] LEAST = {1, 10, 1, 1, 0, 1, 0, 0};
    private static final int[] MOST = {5, 400, 9, 9, 9, 3, 9, 60};
    /** Fifteen BLOCKS and a SEMICOLON: behind one more the 17th begins at byte 112. */
    private static final String SIXTEEN = "span 1;".repeat(16);
    /** 90 PIECES and a SEMICOLON: the next BLOCK begins at byte 33. */
    private static final String NINETY = "lines 30 1;".repeat(3);
    private static final String ALONE = "columns 1;height 10;orphans 1;widows 1;";
    private static final String TWO = "columns 2;height 10;orphans 1;widows 1;";
    private static final Sheet t = new Sheet("Terms");

    private TermSentencesTest() {
    }

    public static void main(String[] args) {
        t.under("Terms");
        blocks();
        ties();
        pieces();
        settings();
        texts();
        parts();
        words();
        blanks();
        faultsOfWords();
        faultsOfNumbers();
        faultsOfLimits();
        ends();
        endsInLines();
        endsInTables();
        textOfColumns();
        notesOfColumns();
        canEnd();
        fits();
        pages();
        spans();
        levelled();
        filled();
        nothingStands();
        stuck();
        acts();
        t.finish();
    }

    private static void told(String text, int pieces) {
        t.due("tell " + text, Texts.tell(new ColumnsLevelled(), text), pieces);
    }

    private static void fault(String text, int place, int code) {
        t.due("tell " + text, Texts.tell(new ColumnsLevelled(), text), -2 - (8 * place + code));
    }

    /** A NUMBER behind some words: its least and its most are told, beyond both is a FAULT at it. */
    private static void range(String before, String behind, int least, int most) {
        for (int number : new int[] {least, most}) {
            String text = before + number + behind;
            t.due("tell " + text, Texts.tell(new ColumnsLevelled(), text) >= 0 ? 1 : 0, 1);
        }
        fault(before + (most + 1) + behind, before.length(), 2);
        if (least > 0) {
            fault(before + (least - 1) + behind, before.length(), 2);
        }
    }

    private static void blocks() {
        t.term("RUN");
        t.test("A RUN: up to 16 BLOCKS, in a row:", () -> {
            ColumnsLevelled x = Texts.of(SIXTEEN.substring(0, 105) + "span 9");
            t.due("blocks", x.count(0), 16);
            t.due("the last one", x.block(15, 3), 9);
            t.due("a 17th", x.block(16, 3), NONE);
            t.due("again", x.again(0), -2);
            fault(SIXTEEN + "span 9", 112, 3);
            x = Texts.of("solid 1;solid 2;head 3");
            t.due("heights in a row", new int[] {x.block(0, 3), x.block(1, 3), x.block(2, 3)}, 1, 2, 3);
        });
        t.test("lines (N lines, 1 to 30,", () -> range("lines ", " 1", 1, 30));
        t.test("each of a height, 1 to 9;", () -> range("lines 2 ", "", 1, 9));
        t.test("whole: never broken;", () -> {
            t.due("ends", Texts.ends(Texts.of("orphans 1;widows 1;lines 4 1 whole;lines 3 1")), "0001" + "111");
        });
        t.test("up to 4 MARKS,", () -> {
            String four = "lines 5 1 mark 1 1 mark 2 1 mark 3 1 mark 4 1";
            t.due("marks", Texts.of(four).block(0, 8), 4);
            t.due("notes", Texts.of(four).count(3), 4);
            fault(four + " mark 5 1", 46, 3);
        });
        t.test("each at a line of its own,", () -> {
            fault("lines 3 1 mark 1 1 mark 1 2", 24, 2);
            told("lines 3 1 mark 1 1;lines 3 1 mark 1 2", 6);
        });
        t.test("with a NOTE of 1 to 20 note lines),", () -> range("lines 1 1 mark 1 ", "", 1, 20));
        t.test("solid (a height, 1 to 200),", () -> range("solid ", "", 1, 200));
        t.test("head (a height, 1 to 30),", () -> range("head ", "", 1, 30));
        t.test("table (a height of its head 0 to 9,", () -> range("table ", " 1 1", 0, 9));
        t.test("N rows, 1 to 30,", () -> range("table 0 ", " 1", 1, 30));
        t.test("each of a height, 1 to 9),", () -> range("table 0 1 ", "", 1, 9));
        t.test("span (a height, 1 to 60).", () -> range("span ", "", 1, 60));
    }

    private static void ties() {
        t.term("BLOCKS");
        String[] kinds = {"lines 1 1", "solid 1", "head 1", "table 0 1 1"};
        t.test("Each but a span may be TIED,", () -> {
            for (String kind : kinds) {
                t.due(kind, Texts.of(kind + " tied").block(0, 5), 1);
                t.due(kind, Texts.of(kind).tie(0, true), 1);
            }
            fault("span 1 tied", 7, 1);
            t.due("tie", Texts.of("span 1").tie(0, true), NONE);
        });
        t.test("and may have a SPACE ahead of it (0 to 30).", () -> {
            for (String kind : kinds) {
                range(kind + " space ", "", 0, 30);
                t.due(kind, Texts.of(kind + " space 30").block(0, 7), 30);
                t.due(kind, Texts.of(kind + " space 1").space(0, 0), 1);
            }
            fault("span 1 space 0", 7, 1);
            t.due("space", Texts.of("span 1").space(0, 1), NONE);
        });
    }

    private static void pieces() {
        t.term("PIECES");
        t.test("PIECES, numbered through the RUN, 90 at most:", () -> {
            told(NINETY + "span 1", 90);
            fault(NINETY + "solid 1", 33, 3);
            ColumnsLevelled x = Texts.of(NINETY + "span 1");
            t.due("again", x.again(0), -2);
            t.due("the last one", x.piece(89, 0), 2);
            t.due("one more", x.piece(90, 0), NONE);
            x = Texts.of("solid 1;span 1;lines 2 1;span 1;solid 1");
            t.due("firsts", new int[] {x.block(0, 2), x.block(2, 2), x.block(4, 2)}, 0, 1, 3);
        });
        t.test("each line, each solid, each head, each row", () -> {
            ColumnsLevelled x = Texts.of("lines 3 1;solid 9;head 9;table 2 4 1");
            t.due("pieces", new int[] {x.block(0, 1), x.block(1, 1), x.block(2, 1), x.block(3, 1)}, 3, 1, 1, 4);
            t.due("all", x.count(1), 9);
        });
        t.test("(the first one with its table's head: as high as both together).", () -> {
            ColumnsLevelled x = Texts.of("table 4 3 2");
            t.due("heights", new int[] {x.piece(0, 2), x.piece(1, 2), x.piece(2, 2)}, 6, 2, 2);
            t.due("no head", Texts.of("table 0 1 2").piece(0, 2), 2);
        });
        t.test("A span is none:", () -> {
            t.due("pieces", Texts.of("span 9;solid 1;span 9").count(1), 1);
            t.due("pieces of a span", Texts.of("span 9").block(0, 1), 0);
        });
        t.term("SECTIONS");
        t.test("it parts the RUN in SECTIONS (ahead of the first span, behind each one;", () -> {
            ColumnsLevelled x = Texts.of("solid 1;solid 1;span 1;solid 1;span 1;solid 1");
            t.due("sections", x.count(2), 3);
            t.due("begins", new int[] {x.section(0, 0), x.section(1, 0), x.section(2, 0)}, 0, 2, 3);
            t.due("finishes", new int[] {x.section(0, 1), x.section(1, 1), x.section(2, 1)}, 2, 3, 4);
            t.due("no span", Texts.of("solid 1").count(2), 1);
            x = Texts.of(SIXTEEN.substring(0, 105) + "span 9");
            t.due("the most", new int[] {x.count(2), x.section(16, 2), x.section(17, 2)}, 17, 9, NONE);
        });
        t.test("one of no PIECES is one, too;", () -> {
            ColumnsLevelled x = Texts.of("span 1;span 2;solid 1;span 3");
            t.due("sections", x.count(2), 4);
            t.due("the first one", Texts.section(x, 0), 0, 0, 0, 1, 0);
            t.due("between spans", Texts.section(x, 1), 0, 0, 1, 1, 0);
            t.due("the last one", Texts.section(x, 3), 1, 1, 3, 1, 0);
            t.due("fits", x.fits(3, 0), 1);
        });
        t.test("without BLOCKS there is none).", () -> {
            t.due("sections", new ColumnsLevelled().count(2), 0);
            t.due("section", new ColumnsLevelled().section(0, 0), NONE);
            ColumnsLevelled x = Texts.of("span 1");
            x.drop(0);
            t.due("sections", x.count(2), 0);
            t.due("section", x.section(0, 0), NONE);
        });
    }

    /** A SETTING has its value at first, takes all from its least to its most and no other one. */
    private static void setting(String sentence, int what) {
        t.test(sentence, () -> {
            ColumnsLevelled x = new ColumnsLevelled();
            int now = FIRST[what];
            t.due("at first", x.count(10 + what), now);
            range(SETTINGS[what] + " ", "", LEAST[what], MOST[what]);
            for (int value : new int[] {LEAST[what] - 1, MOST[what] + 1, -1, Integer.MIN_VALUE, Integer.MAX_VALUE}) {
                t.due("set " + value, x.set(what, value), NONE);
                t.due("trial " + value, x.trial(what, value), NONE);
            }
            t.due("still", x.count(10 + what), now);
            for (int value = LEAST[what]; value <= MOST[what]; value++) {
                t.due("set " + value, x.set(what, value), value == now ? -2 : now);
                now = value;
            }
            t.due("trial", x.trial(what, LEAST[what]), 0);
            t.due("trial", x.trial(what, MOST[what]), 0);
        });
    }

    private static void settings() {
        t.term("SETTINGS");
        setting("SETTINGS: 0 COLUMNS 1 to 5 (2 at first),", 0);
        setting("1 HEIGHT 10 to 400 (60),", 1);
        setting("2 ORPHANS 1 to 9 (2),", 2);
        setting("3 WIDOWS 1 to 9 (2),", 3);
        setting("4 FOLLOW 0 to 9 (2),", 4);
        setting("5 NOTE 1 to 3 (1;", 5);
        t.test("how high a note line is),", () -> {
            for (int high = 1; high <= 3; high++) {
                t.due("a line, RULE, 4 note lines", Texts.of("columns 1;note " + high + ";lines 1 1 mark 1 4").least(0), 2 + 4 * high);
            }
        });
        setting("6 RULE 0 to 9 (1;", 6);
        t.test("what stands ahead of the notes in a column that has some),", () -> {
            for (int rule = 0; rule <= 9; rule += 3) {
                t.due("with notes", Texts.of("columns 1;rule " + rule + ";lines 1 1 mark 1 4").least(0), 5 + rule);
                t.due("without", Texts.of("columns 1;rule " + rule + ";lines 1 1").least(0), 1);
            }
        });
        setting("7 ROOM 0 to 60 (0).", 7);
    }

    private static void texts() {
        t.term("TEXT");
        t.test("A TEXT of at most 400 bytes tells a RUN:", () -> {
            told(" ".repeat(393) + "solid 1", 1);
            String most = "solid 1;".repeat(3) + " ".repeat(369) + "solid 1";
            t.due("bytes", most.length(), 400);
            told(most, 4);
        });
        t.test("[ PART { ; PART } ].", () -> {
            told("", 0);
            told("   ", 0);
            told("solid 1", 1);
            told("solid 1;solid 1", 2);
            told("columns 1;solid 1;height 10;solid 1;span 1", 2);
            fault(";", 0, 1);
            fault(";solid 1", 0, 1);
            fault("solid 1;", 8, 1);
            fault("solid 1;;solid 1", 8, 1);
            fault("solid 1 solid 1", 8, 1);
        });
    }

    private static void parts() {
        t.term("PART");
        t.test("PART: SETTING NUMBER", () -> {
            t.due("columns", Texts.of("columns 3").count(10), 3);
            fault("columns", 7, 1);
            fault("columns ;solid 1", 8, 1);
            fault("columns tied", 8, 1);
            fault("columns 3 3", 10, 1);
            fault("columns 3 tied", 10, 1);
            fault("3 columns", 0, 1);
        });
        t.test("| lines N H { WORD }", () -> {
            t.due("block", Texts.block(Texts.of("lines 3 2"), 0), 0, 3, 0, 2, 0, 0, 0, 0, 0);
            told("lines 3 2 mark 1 1 space 1 whole tied mark 2 2", 3);
            fault("lines", 5, 1);
            fault("lines 3", 7, 1);
            fault("lines tied 3 2", 6, 1);
            fault("lines 3 tied 2", 8, 1);
            fault("lines 3 2 1", 10, 1);
        });
        t.test("| solid H { WORD }", () -> {
            t.due("block", Texts.block(Texts.of("solid 12 tied space 3"), 0), 1, 1, 0, 12, 0, 1, 0, 3, 0);
            fault("solid", 5, 1);
            fault("solid tied", 6, 1);
            fault("solid 3 3", 8, 1);
        });
        t.test("| head H { WORD }", () -> {
            t.due("block", Texts.block(Texts.of("head 12 space 3 tied"), 0), 2, 1, 0, 12, 0, 1, 0, 3, 0);
            fault("head", 4, 1);
            fault("head tied", 5, 1);
            fault("head 3 3", 7, 1);
        });
        t.test("| table H N H { WORD }", () -> {
            t.due("block", Texts.block(Texts.of("table 4 3 2 tied space 3"), 0), 3, 3, 0, 2, 4, 1, 0, 3, 0);
            fault("table", 5, 1);
            fault("table 4", 7, 1);
            fault("table 4 3", 9, 1);
            fault("table 4 3 tied", 10, 1);
            fault("table 4 3 2 1", 12, 1);
        });
        t.test("| span H.", () -> {
            t.due("block", Texts.block(Texts.of("span 5"), 0), 4, 0, 0, 5, 0, 0, 0, 0, 0);
            fault("span", 4, 1);
            fault("span 5 5", 7, 1);
            for (String word : new String[] {"tied", "whole", "space 1", "mark 1 1"}) {
                fault("span 5 " + word, 7, 1);
            }
        });
        t.test("SETTING: columns, height, orphans, widows, follow, note, rule, room", () -> {
            for (int what = 0; what < SETTINGS.length; what++) {
                ColumnsLevelled x = Texts.of(SETTINGS[what] + " " + MOST[what]);
                for (int i = 0; i < SETTINGS.length; i++) {
                    t.due(SETTINGS[what] + ": " + i, x.count(10 + i), i == what ? MOST[i] : FIRST[i]);
                }
            }
        });
        t.test("(each once at most;", () -> {
            for (int what = 0; what < SETTINGS.length; what++) {
                String one = SETTINGS[what] + " " + MOST[what] + ";";
                fault(one + one + "solid 1", one.length(), 3);
                fault(one + "solid 1 tied;" + one + "solid 1", one.length() + 13, 3);
            }
        });
        t.test("one that is not told is as at first).", () -> {
            ColumnsLevelled x = Texts.of("columns 5;height 11;orphans 3;widows 4;follow 5;note 3;rule 7;room 8");
            t.due("pieces", Texts.tell(x, "solid 1;rule 9"), 1);
            for (int i = 0; i < SETTINGS.length; i++) {
                t.due(SETTINGS[i], x.count(10 + i), i == 6 ? 9 : FIRST[i]);
            }
        });
    }

    private static void words() {
        t.term("WORD");
        t.test("WORD: tied", () -> {
            ColumnsLevelled x = Texts.of("solid 1 tied;solid 1");
            t.due("tied", x.block(0, 5), 1);
            t.due("not told", x.block(1, 5), 0);
        });
        t.test("| whole (of lines alone)", () -> {
            t.due("whole", Texts.of("lines 3 1 whole").block(0, 6), 1);
            t.due("not told", Texts.of("lines 3 1").block(0, 6), 0);
            fault("solid 1 whole", 8, 1);
            fault("head 1 whole", 7, 1);
            fault("table 1 1 1 whole", 12, 1);
        });
        t.test("| space NUMBER", () -> {
            t.due("space", Texts.of("solid 1 space 30").block(0, 7), 30);
            t.due("not told", Texts.of("solid 1").block(0, 7), 0);
            fault("solid 1 space", 13, 1);
            fault("solid 1 space tied", 14, 1);
            fault("solid 1 space;", 13, 1);
        });
        t.test("| mark LINE N (of lines alone;", () -> {
            ColumnsLevelled x = Texts.of("lines 3 1 mark 2 7");
            t.due("note lines", new int[] {x.piece(0, 4), x.piece(1, 4), x.piece(2, 4)}, 0, 7, 0);
            fault("lines 3 1 mark", 14, 1);
            fault("lines 3 1 mark 2", 16, 1);
            fault("lines 3 1 mark 2 tied", 17, 1);
            fault("solid 1 mark 1 1", 8, 1);
            fault("head 1 mark 1 1", 7, 1);
            fault("table 1 1 1 mark 1 1", 12, 1);
        });
        t.test("LINES from 1 on,", () -> {
            fault("lines 3 1 mark 0 1", 15, 2);
            t.due("the first line", Texts.of("lines 3 1 mark 1 5").piece(0, 4), 5);
            t.due("the last line", Texts.of("lines 3 1 mark 3 5").piece(2, 4), 5);
            fault("lines 3 1 mark 4 1", 15, 2);
        });
        t.test("4 at most, of one BLOCK each LINE once);", () -> {
            String four = "lines 9 1 mark 1 1 mark 2 1 mark 3 1 mark 4 1";
            t.due("marks of two blocks", Texts.of(four + ";" + four).count(3), 8);
            fault(four + " mark 5 1", 46, 3);
            fault(four + ";" + four + " mark 5 1", 92, 3);
            fault("lines 3 1 mark 3 1 mark 1 1 mark 3 1", 33, 2);
        });
        t.test("each of the first three once.", () -> {
            fault("lines 3 1 tied tied", 15, 3);
            fault("lines 3 1 tied space 1 whole tied", 29, 3);
            fault("lines 3 1 whole whole", 16, 3);
            fault("lines 3 1 space 1 space 1", 18, 3);
            told("lines 1 1 tied whole space 1;lines 1 1 tied whole space 1", 2);
        });
    }

    private static void blanks() {
        t.term("WORDS");
        t.test("WORDS are small letters, NUMBERS digits, as far as they go on;", () -> {
            t.due("height", Texts.of("solid 123").block(0, 3), 123);
            t.due("height", Texts.of("solid 00000000000000000000123").block(0, 3), 123);
            fault("Solid 1", 0, 1);
            fault("soliD 1", 0, 1);
            fault("soli 1", 0, 1);
            fault("solids 1", 0, 1);
            fault("solidsolid 1", 0, 1);
            fault("sol id 1", 0, 1);
            fault("solid 1 tiedd", 8, 1);
            fault("solid 1 t ied", 8, 1);
            fault("solidz 1", 0, 1);
            fault("solid 1z", 7, 1);
            for (String word : "columns height orphans widows follow note rule room lines solid head table span".split(" ")) {
                for (int i = 0; i < word.length(); i++) {
                    fault(word.substring(0, i) + "z" + word.substring(i + 1) + " 1 1 1", 0, 1);
                    fault(word.substring(0, i) + word.substring(i + 1) + " 1 1 1", 0, 1);
                }
            }
            for (String word : "tied whole space mark".split(" ")) {
                for (int i = 0; i < word.length(); i++) {
                    fault("lines 1 1 " + word.substring(0, i) + "z" + word.substring(i + 1) + " 1 1", 10, 1);
                    fault("lines 1 1 " + word.substring(0, i) + word.substring(i + 1) + " 1 1", 10, 1);
                }
            }
            fault("solid 1 2", 8, 1);
            fault("solid +1", 6, 1);
            fault("solid -1", 6, 1);
            fault("solid 1.5", 7, 1);
        });
        t.test("blanks (32) stand between as one likes.", () -> {
            told("  solid   1   tied   ;   solid 2   ", 2);
            told("lines3 2tied", 3);
            told("lines3 2tied space1mark1 1mark2 2;solid1;columns3", 4);
            for (char other : new char[] {9, 10, 11, 12, 13, 0, 160}) {
                fault("solid" + other + "1", 5, 1);
                fault(other + "solid 1", 0, 1);
                fault("solid 1" + other, 7, 1);
            }
        });
    }

    private static void faultsOfWords() {
        t.term("FAULT");
        t.test("FAULT of a text that is none: of the first place along it that is wrong (0 the first byte), 8 times the place and:", () -> {
            fault("x", 0, 1);
            fault(" x", 1, 1);
            fault(" ".repeat(399) + "x", 399, 1);
            fault("solid 0;solid 0", 6, 2);
            fault("columns 3;columns x", 10, 3);
            fault("lines 31 x", 6, 2);
            fault("lines 3 1 mark 4 99 tied tied;", 15, 2);
            fault("lines 3 1 tied tied mark 4 99;", 15, 3);
        });
        t.test("1 a byte or WORD that cannot stand there,", () -> {
            for (int b = 0; b < 256; b++) {
                char c = (char) b;
                boolean digit = c >= '0' && c <= '9';
                if (c != ' ') {
                    fault("" + c, 0, 1);
                    fault("solid 5 " + c, c == ';' ? 9 : 8, 1);
                }
                if (digit || c == ' ') {
                    told("solid 5" + c, 1);
                } else {
                    fault("solid 5" + c, c == ';' ? 8 : 7, 1);
                }
            }
            for (String word : "tied whole space mark solids x".split(" ")) {
                fault(word + " 1 1", 0, 1);
                fault("lines 3 " + word, 8, 1);
            }
            for (String word : "lines solid head table span columns height orphans widows follow note rule room".split(" ")) {
                fault("lines 3 " + word + " 1", 8, 1);
                fault("lines 3 1 " + word + " 1 1 1", 10, 1);
                fault(word + " " + word, word.length() + 1, 1);
            }
        });
        t.test("or the text ends (the place behind its last byte);", () -> {
            fault("lines", 5, 1);
            fault("lines 7", 7, 1);
            fault("lines 7 ", 8, 1);
            fault("lines 7   ", 10, 1);
            fault("solid 1;", 8, 1);
            fault("solid 1; ", 9, 1);
            fault("solid 1;" + " ".repeat(392), 400, 1);
            fault("solid 1;" + " ".repeat(387) + "solid", 400, 1);
        });
    }

    private static void faultsOfNumbers() {
        t.term("FAULT");
        t.test("2 a NUMBER (where it begins) that is not as told;", () -> {
            fault("solid   201", 8, 2);
            fault("solid201", 5, 2);
            fault("solid 0", 6, 2);
            fault("solid 000", 6, 2);
            fault("solid 4294967297", 6, 2);
            fault("solid 18446744073709551617", 6, 2);
            fault("solid " + "9".repeat(394), 6, 2);
            fault("solid 0x", 6, 2);
            fault("height 401;solid 1", 7, 2);
            fault("lines 1 1 space 31 tied", 16, 2);
            fault("lines 1 1 mark 1 21 tied", 17, 2);
            fault("lines 1 1 mark 1 0", 17, 2);
        });
        t.test("a LINE that the BLOCK has not, that has a MARK;", () -> {
            fault("lines 3 1 mark 4 1", 15, 2);
            fault("lines 3 1 mark 4", 15, 2);
            fault("lines 3 1 mark 0 1", 15, 2);
            fault("lines 30 1 mark 31 1", 16, 2);
            fault("lines 3 1 mark 2 1 mark 2 1", 24, 2);
            fault("lines 3 1 mark 2 1 mark 2", 24, 2);
            fault("lines 3 1 mark 2 1 mark 02 99", 24, 2);
            told("lines 3 1;lines 2 1 mark 2 1;lines 2 1 mark 2 1", 7);
        });
    }

    private static void faultsOfLimits() {
        t.term("FAULT");
        t.test("3 the WORD of a 17th BLOCK,", () -> {
            for (String kind : new String[] {"lines", "solid", "head", "table", "span"}) {
                fault(SIXTEEN + kind, 112, 3);
                fault(SIXTEEN + kind + " 1 1 1", 112, 3);
            }
            told(SIXTEEN + "columns 1", 0);
            told(SIXTEEN.substring(0, 105) + "columns 1;solid 1", 1);
        });
        t.test("of a SETTING, of tied, whole, space for the second time,", () -> {
            fault("columns 1;columns", 10, 3);
            fault("columns 1;  columns 9", 12, 3);
            fault("solid 1 tied  tied", 14, 3);
            fault("lines 1 1 whole whole", 16, 3);
            fault("solid 1 space 1 space", 16, 3);
            fault("solid 1 space 1 space 99", 16, 3);
            fault("solid 1 space 0 space 0", 16, 3);
        });
        t.test("of a fifth mark;", () -> {
            String four = "lines 4 1 mark 1 1 mark 2 1 mark 3 1 mark 4 1";
            fault(four + " mark", 46, 3);
            fault(four + " mark 4 1", 46, 3);
            fault(four + " mark 9 99", 46, 3);
            fault(four + " tied mark 1 1", 51, 3);
        });
        t.test("the NUMBER N of a BLOCK by which there would be more than 90 PIECES;", () -> {
            fault(NINETY + "lines 1 1", 39, 3);
            fault(NINETY + "lines 1", 39, 3);
            fault(NINETY + "table 0 1 1", 41, 3);
            told(NINETY.substring(11) + "lines 30 1", 90);
            told(NINETY.substring(11) + "lines 29 1;lines 1 1", 90);
            told(NINETY.substring(11) + "lines 29 1;table 0 1 1", 90);
            fault(NINETY.substring(11) + "lines 29 1;lines 2 1", 39, 3);
            fault(NINETY.substring(11) + "lines 29 1;table 0 2 1", 41, 3);
            fault(NINETY.substring(11) + "solid 1;lines 30 1", 36, 3);
        });
        t.test("the WORD solid, head by which there would be.", () -> {
            fault(NINETY + "solid 1", 33, 3);
            fault(NINETY + "head 1", 33, 3);
            fault(NINETY + "solid 999", 33, 3);
            told(NINETY.substring(11) + "lines 29 1;solid 1", 90);
            told(NINETY.substring(11) + "lines 29 1;head 1", 90);
            told(NINETY + "span 1", 90);
        });
        t.test("Of one place the least.", () -> {
            fault(NINETY + "lines 31 1", 39, 2);
            fault(NINETY + "lines 0 1", 39, 2);
            fault(NINETY + "table 0 31 1", 41, 2);
            fault(NINETY + "solids 1", 33, 1);
            fault(SIXTEEN + "tied", 112, 1);
            fault(SIXTEEN + "solids 1", 112, 1);
            fault("solid 1 space 1 spaces 1", 16, 1);
        });
    }

    private static void ends() {
        t.term("ENDS");
        t.test("ENDS: a column may end ahead of its SECTION's first PIECE,", () -> {
            ColumnsLevelled x = Texts.of("solid 9;span 1;solid 8");
            t.due("reach", x.reach(0, 1, 8), 0);
            t.due("reach", x.reach(1, 1, 7), 1);
            t.due("ends", x.section(1, 3), 2);
            t.due("rows of ends: 0 1, 1 1", x.ways(0, 9), 2);
            t.due("behind a head", Texts.of("head 1;span 1;solid 1").reach(1, 1, 0), 1);
        });
        t.test("behind its last one,", () -> {
            ColumnsLevelled x = Texts.of("head 3;span 1;solid 2 tied;span 1;lines 3 1 tied whole;span 1;table 0 2 1 tied");
            t.due("ends", Texts.ends(x), "1" + "1" + "001" + "11");
            t.due("a head that is not the last", Texts.ends(Texts.of("head 3;solid 2 tied;solid 2")), "001");
        });
        t.test("and behind a PIECE: behind the last one of a BLOCK that is no head and not TIED;", () -> {
            ColumnsLevelled x = Texts.of("solid 1;solid 1 tied;head 1;head 1 tied;lines 1 1;lines 1 1 tied;"
                + "table 0 1 1;table 0 1 1 tied;lines 3 1 whole;lines 3 1 whole tied;solid 1");
            t.due("ends", Texts.ends(x), "1000" + "10" + "10" + "001" + "000" + "1");
        });
    }

    private static void endsInLines() {
        t.term("ENDS");
        t.test("behind the i-th of N lines of a BLOCK that is not whole,", () -> {
            ColumnsLevelled x = Texts.of("orphans 1;widows 1;lines 4 1;lines 4 1 tied;lines 4 1 whole;solid 1");
            t.due("ends", Texts.ends(x), "1111" + "1110" + "0001" + "1");
        });
        t.test("if i is no less than ORPHANS", () -> {
            ColumnsLevelled x = Texts.of("orphans 5;widows 1;lines 12 1;lines 3 1;solid 1");
            for (int orphans = 1; orphans <= 9; orphans++) {
                x.set(2, orphans);
                String due = "0".repeat(orphans - 1) + "1".repeat(13 - orphans);
                String few = orphans == 1 ? "111" : orphans == 2 ? "011" : "001";
                t.due("orphans " + orphans, Texts.ends(x), due + few + "1");
            }
        });
        t.test("(and, if a head is the BLOCK ahead of it in its SECTION, than FOLLOW),", () -> {
            ColumnsLevelled x = Texts.of("orphans 3;widows 1;head 1;lines 12 1;lines 12 1");
            for (int follow = 0; follow <= 9; follow++) {
                x.set(4, follow);
                int first = Math.max(3, follow);
                String due = "0" + "0".repeat(first - 1) + "1".repeat(13 - first);
                t.due("follow " + follow, Texts.ends(x), due + "001111111111");
            }
            String loose = "orphans 1;widows 1;follow 9;";
            t.due("another section", Texts.ends(Texts.of(loose + "head 1;span 1;lines 3 1;solid 1")), "1" + "111" + "1");
            t.due("two ahead", Texts.ends(Texts.of(loose + "head 1;solid 1;lines 3 1")), "0" + "1" + "111");
            t.due("behind it", Texts.ends(Texts.of(loose + "lines 3 1;head 1")), "111" + "1");
            t.due("two heads", Texts.ends(Texts.of(loose + "head 1;head 1 tied;lines 10 1;solid 1")), "00" + "0000000011" + "1");
        });
        t.test("and N less i no less than WIDOWS;", () -> {
            ColumnsLevelled x = Texts.of("orphans 1;widows 5;lines 12 1;lines 3 1;solid 1");
            for (int widows = 1; widows <= 9; widows++) {
                x.set(3, widows);
                String due = "1".repeat(12 - widows) + "0".repeat(widows - 1) + "1";
                String few = widows == 1 ? "111" : widows == 2 ? "101" : "001";
                t.due("widows " + widows, Texts.ends(x), due + few + "1");
            }
        });
    }

    private static void endsInTables() {
        t.term("ENDS");
        t.test("behind each row of a table but the last one", () -> {
            ColumnsLevelled x = Texts.of("orphans 9;widows 9;follow 9;head 1;table 5 4 1 tied;solid 1");
            t.due("ends", Texts.ends(x), "0" + "1110" + "1");
        });
        t.test("(behind that as behind a BLOCK).", () -> {
            t.due("tied", Texts.ends(Texts.of("table 0 1 1 tied;solid 1")), "01");
            t.due("not tied", Texts.ends(Texts.of("table 0 1 1;solid 1")), "11");
            t.due("its section's last one", Texts.ends(Texts.of("table 0 2 1 tied;span 1;solid 1")), "11" + "1");
        });
    }

    private static void textOfColumns() {
        t.term("TEXT");
        t.test("A column has the PIECES from its begin (where the one ahead ended) to its end (none, too).", () -> {
            ColumnsLevelled x = Texts.of("columns 4;orphans 1;widows 1;solid 3;lines 2 1");
            t.due("column 0", Texts.column(x, 0), 0, 0, 0, 0, 1, 3, 0, 0, 0, 0, 3, 1);
            t.due("column 1", Texts.column(x, 1), 0, 1, 0, 1, 3, 2, 0, 0, 0, 0, 3, 1);
            t.due("column 2", Texts.column(x, 2), 0, 2, 0, 3, 3, 0, 0, 0, 0, 0, 3, 1);
            t.due("column 3", Texts.column(x, 3), 0, 3, 0, 3, 3, 0, 0, 0, 0, 0, 3, 1);
            // the SPACE of the BLOCK behind it is not in a column of none
            x = Texts.of(ALONE + "rule 0;lines 1 1 mark 1 20;solid 10 space 5");
            t.due("column 1", Texts.column(x, 1), 1, 0, 0, 1, 1, 0, 11, 0, 10, 0, 10, 0);
            t.due("column 2", Texts.column(x, 2), 2, 0, 0, 1, 1, 0, 1, 0, 1, 0, 10, 0);
            t.due("column 3", Texts.column(x, 3), 3, 0, 0, 1, 2, 10, 0, 0, 0, 0, 10, 1);
        });
        t.test("Its TEXT: their heights, SPACES of BLOCKS whose first PIECE is one of them, but of its first PIECE;", () -> {
            ColumnsLevelled x = Texts.of("columns 1;height 99;solid 5 space 7;lines 2 3 space 4;head 6 space 30;solid 1 space 1");
            t.due("text", x.column(0, 5), 5 + 4 + 6 + 30 + 6 + 1 + 1);
            // the second column begins within the lines: their SPACE is not in it
            x = Texts.of("columns 2;orphans 1;widows 1;lines 4 1 space 9;solid 2 space 3");
            t.due("column 0", Texts.column(x, 0), 0, 0, 0, 0, 4, 4, 0, 0, 0, 0, 4, 1);
            t.due("column 1", Texts.column(x, 1), 0, 1, 0, 4, 5, 2, 0, 0, 0, 0, 4, 1);
            x.set(0, 1);
            t.due("one column", x.least(0), 4 + 3 + 2);
        });
        t.test("if its first PIECE is a row of a table, not its first, that table's head, too.", () -> {
            ColumnsLevelled x = Texts.of("columns 2;table 2 5 2");
            t.due("column 0", Texts.column(x, 0), 0, 0, 0, 0, 3, 8, 0, 0, 0, 0, 8, 1);
            t.due("column 1", Texts.column(x, 1), 0, 1, 0, 3, 5, 6, 0, 0, 0, 0, 8, 1);
            x = Texts.of("columns 2;solid 9;table 2 2 2;solid 1");
            t.due("its first row", x.column(1, 5), 4 + 2 + 1);
            t.due("in the middle of a column", Texts.of("columns 1;solid 9;table 2 2 2").least(0), 9 + 4 + 2);
        });
    }

    private static void notesOfColumns() {
        t.term("OWN");
        t.test("OWN: note lines of all NOTES whose MARKS are on its PIECES.", () -> {
            ColumnsLevelled x = Texts.of("columns 1;lines 4 1 mark 3 4 mark 1 3;lines 2 1;lines 2 1 mark 2 6");
            t.due("own", x.column(0, 7), 13);
            x = Texts.of("columns 2;height 10;solid 10;lines 2 1 mark 2 6");
            t.due("own", new int[] {x.column(0, 7), x.column(1, 7)}, 0, 6);
        });
        t.term("CARRIED");
        t.test("CARRIED: note lines that were left over by the column ahead (0 for the first one of a SECTION).", () -> {
            ColumnsLevelled x = Texts.of("columns 3;height 10;orphans 1;widows 1;note 2;lines 6 1 mark 2 7;span 1;solid 1");
            // 5 lines, RULE and a note line; a line, RULE and 3; RULE and 3
            t.due("column 0", Texts.column(x, 0), 0, 0, 0, 0, 5, 5, 0, 7, 1, 0, 8, 1);
            t.due("column 1", Texts.column(x, 1), 0, 1, 0, 5, 6, 1, 6, 0, 3, 0, 8, 1);
            t.due("column 2", Texts.column(x, 2), 0, 2, 0, 6, 6, 0, 3, 0, 3, 0, 8, 1);
            t.due("the next section", x.column(3, 6), 0);
            // 7 are left over behind PAGE 39; with another RULE all begins anew
            x = Texts.of(ALONE + "rule 8;lines 4 1 mark 1 20 mark 2 20 mark 3 20 mark 4 20");
            t.due("stuck", new int[] {x.pour(), x.set(6, 0), x.column(0, 6)}, -6, 8, 0);
        });
        t.test("If OWN and CARRIED are not both 0, RULE stands below the TEXT,", () -> {
            t.due("neither", Texts.of("columns 1;rule 5;lines 1 1").least(0), 1);
            t.due("own", Texts.of("columns 1;rule 5;lines 1 1 mark 1 1").least(0), 7);
            // a line, RULE and 5 note lines, then RULE and 5 more: CARRIED alone has it, too
            ColumnsLevelled x = Texts.of("columns 2;rule 5;lines 1 1 mark 1 10");
            t.due("carried", x.least(0), 11);
            t.due("column 1", Texts.column(x, 1), 0, 1, 0, 1, 1, 0, 5, 0, 5, 0, 11, 1);
            t.due("loose", x.loose(0), 1);
        });
        t.test("and then as many note lines as there is height for, but no more than there are;", () -> {
            ColumnsLevelled x = Texts.of("columns 1;height 10;note 3;lines 1 1 mark 1 20");
            t.due("8 of height, 3 each", x.column(0, 8), 2);
            x.set(6, 0);
            t.due("9 of height, 3 each", x.column(0, 8), 3);
            x = Texts.of("columns 2;height 60;rule 0;lines 1 1 mark 1 3;solid 10");
            t.due("height", x.column(0, 10), 10);
            t.due("no more than there are", x.column(0, 8), 3);
        });
        t.test("what is left over is CARRIED on.", () -> {
            ColumnsLevelled x = Texts.of("columns 1;height 10;note 3;lines 1 1 mark 1 20");
            t.due("carried", new int[] {x.column(0, 6), x.column(1, 6), x.column(2, 6), x.column(6, 6)}, 0, 18, 15, 3);
            t.due("columns", x.column(NONE, 0), 7);
        });
    }

    private static void canEnd() {
        t.term("CAN END");
        t.test("A column of a height CAN END so, if TEXT (and RULE) is no more than the height,", () -> {
            ColumnsLevelled x = Texts.of("columns 1;solid 10;span 1;lines 1 4 mark 1 1");
            t.due("text", new int[] {x.reach(0, 1, 9), x.reach(0, 1, 10)}, 0, 1);
            t.due("text, rule and a note line", new int[] {x.reach(1, 1, 5), x.reach(1, 1, 6)}, 1, 2);
            x.set(6, 9);
            t.due("with another rule", new int[] {x.reach(1, 1, 13), x.reach(1, 1, 14)}, 1, 2);
        });
        t.test("and: if it has MARKS, all that is CARRIED and all OWN but the last NOTE's, and of that one line, have room;", () -> {
            ColumnsLevelled x = Texts.of("rule 0;orphans 1;widows 1;lines 2 1 mark 1 3 mark 2 5");
            t.due("own: 2 lines, 3 note lines and one", new int[] {x.reach(0, 1, 5), x.reach(0, 1, 6)}, 1, 2);
            t.due("one line and one", new int[] {x.reach(0, 1, 1), x.reach(0, 1, 2)}, 0, 1);
            x.set(5, 3);
            t.due("of 3 each", new int[] {x.reach(0, 1, 13), x.reach(0, 1, 14)}, 1, 2);
            // by the second column 4 are CARRIED at height 6, 5 at height 5
            for (int own = 1; own <= 5; own += 4) {
                x = Texts.of("rule 0;orphans 1;widows 1;lines 2 1 mark 1 9 mark 2 " + own);
                t.due("carried", new int[] {x.reach(0, 2, 5), x.reach(0, 2, 6)}, 1, 2);
            }
            // the second column's line, 7 CARRIED and a line, behind 2 of RULE
            x = Texts.of("rule 2;orphans 1;widows 1;lines 2 1 mark 1 15 mark 2 5");
            t.due("carried", new int[] {x.reach(0, 2, 10), x.reach(0, 2, 11)}, 1, 2);
        });
        t.test("if it has none, but something is CARRIED, one line has room.", () -> {
            ColumnsLevelled x = Texts.of("rule 2;lines 1 1 mark 1 20;solid 5");
            t.due("reach", new int[] {x.reach(0, 2, 7), x.reach(0, 2, 8)}, 1, 2);
            x.set(5, 3);
            t.due("of 3", new int[] {x.reach(0, 2, 9), x.reach(0, 2, 10)}, 1, 2);
            // at height 10 none would stand below the solid of 10, and 6 below the one of 4
            x = Texts.of("columns 3;rule 0;lines 1 1 mark 1 15;solid 10;solid 4");
            t.due("fits", new int[] {x.fits(0, 10), x.fits(0, 11), x.least(0)}, 0, 1, 11);
        });
    }

    private static void fits() {
        t.term("FITS");
        t.test("A SECTION FITS from a PIECE on, with so much CARRIED, in k columns of a height, if there are ENDS by which each CAN END so,", () -> {
            ColumnsLevelled x = Texts.of("solid 5;solid 5;solid 5;solid 5 tied;solid 5");
            t.due("one column", new int[] {x.narrow(0, 24), x.narrow(0, 25)}, 2, 1);
            t.due("two columns", new int[] {x.narrow(0, 14), x.narrow(0, 15)}, 3, 2);
            t.due("three columns", new int[] {x.narrow(0, 9), x.narrow(0, 10)}, -2, 3);
            // from the solid on with 2 CARRIED
            x = Texts.of(ALONE + "rule 0;lines 3 1 mark 1 9;solid 8");
            t.due("levelled", Texts.column(x, 1), 1, 0, 0, 3, 4, 8, 2, 0, 2, 0, 10, 1);
            x = Texts.of(ALONE + "rule 0;lines 3 1 mark 1 9;solid 9");
            t.due("filled", Texts.column(x, 1), 1, 0, 0, 3, 4, 9, 2, 0, 1, 0, 10, 0);
        });
        t.test("the last one at the SECTION's end with nothing CARRIED on.", () -> {
            ColumnsLevelled x = Texts.of("columns 1;rule 0;lines 1 1 mark 1 5");
            t.due("a column can end there", x.reach(0, 1, 5), 1);
            t.due("fits", new int[] {x.fits(0, 5), x.fits(0, 6)}, 0, 1);
            x = Texts.of("columns 2;rule 0;orphans 1;widows 1;lines 4 1");
            t.due("fits", new int[] {x.fits(0, 1), x.fits(0, 2)}, 0, 1);
        });
    }

    private static void pages() {
        t.term("POURED");
        t.test("POURED: PAGE by PAGE, SECTION by SECTION.", () -> {
            ColumnsLevelled x = Texts.of(ALONE + "lines 15 1;span 2;lines 4 1");
            t.due("pages", x.pour(), 3);
            t.due("column 0", Texts.column(x, 0), 0, 0, 0, 0, 10, 10, 0, 0, 0, 0, 10, 0);
            t.due("column 1", Texts.column(x, 1), 1, 0, 0, 10, 15, 5, 0, 0, 0, 0, 5, 1);
            t.due("column 2", Texts.column(x, 2), 1, 0, 1, 15, 18, 3, 0, 0, 0, 7, 3, 0);
            t.due("column 3", Texts.column(x, 3), 2, 0, 1, 18, 19, 1, 0, 0, 0, 0, 1, 1);
        });
        t.test("At first PAGE 0, all of HEIGHT is free.", () -> {
            ColumnsLevelled x = Texts.of(ALONE + "solid 10");
            t.due("pages", x.pour(), 1);
            t.due("column", Texts.column(x, 0), 0, 0, 0, 0, 1, 10, 0, 0, 0, 0, 10, 1);
            t.due("higher", Texts.of(ALONE + "solid 11").pour(), -2);
            t.due("span", Texts.span(Texts.of(ALONE + "span 3;solid 1"), 0), 0, 0);
        });
        t.term("COLUMNS");
        t.test("COLUMNS that were poured are numbered PAGE by PAGE as they were poured, those without PIECES, too.", () -> {
            ColumnsLevelled x = Texts.of("height 10;columns 2;span 6;solid 4;solid 5;span 1;solid 1");
            t.due("columns", x.column(NONE, 0), 6);
            t.due("without pieces", Texts.column(x, 1), 0, 1, 1, 1, 1, 0, 0, 0, 0, 6, 4, 0);
            t.due("on the next page", Texts.where(x, 1), 1, 2, 0);
            t.due("in the next section", Texts.where(x, 2), 1, 4, 0);
            columnsOnFortyPages();
            for (int i = 0; i < 6; i++) {
                t.due("page", x.column(i, 0), i < 2 ? 0 : 1);
                t.due("section", x.column(i, 2), i < 4 ? 1 : 2);
            }
        });
    }

    /**
     * Five columns of a solid, then five on each PAGE: 18 note lines are left over by the first one's line;
     * from PAGE 1 on 3 lines and their notes take 20 columns.
     */
    private static void columnsOnFortyPages() {
        ColumnsLevelled x = Texts.of("columns 5;height 10;rule 0;note 3;orphans 1;widows 1;solid 1;span 1;"
            + "lines 4 1 mark 1 20 mark 2 20 mark 3 20 mark 4 20");
        for (int i = 4; i <= 11; i++) {
            x.again(2);
        }
        t.due("stuck ahead of the 31st line", x.pour(), -2 - 31);
        t.due("columns", x.column(NONE, 0), 205);
        t.due("column 193", Texts.column(x, 193), 37, 3, 1, 29, 30, 1, 1, 20, 3, 0, 10, 0);
        t.due("column 200", Texts.column(x, 200), 39, 0, 1, 30, 31, 1, 0, 20, 3, 0, 10, 0);
        t.due("column 204", Texts.column(x, 204), 39, 4, 1, 31, 31, 0, 8, 0, 3, 0, 10, 0);
    }

    private static void spans() {
        t.term("POURED");
        t.test("A span ahead of a SECTION: if its height and ROOM are no more than what is free,", () -> {
            String[] rests = {"room 5;solid 10;span 5", "room 6;solid 10;span 5", "room 5;solid 10;span 6",
                "room 0;solid 10;span 10", "room 0;solid 10;span 11"};
            int[][] due = {{0, 10}, {1, 0}, {1, 0}, {0, 10}, {1, 0}};
            for (int i = 0; i < rests.length; i++) {
                t.due(rests[i], Texts.span(Texts.of("height 20;columns 1;" + rests[i]), 0), due[i]);
            }
        });
        t.test("or all of HEIGHT is free, it stands there,", () -> {
            ColumnsLevelled x = Texts.of("height 10;columns 1;room 60;span 60;solid 1");
            t.due("span", Texts.span(x, 0), 0, 0);
            t.due("solid", Texts.where(x, 0), 1, 0, 0);
            x = Texts.of("height 10;columns 1;solid 3;span 60;span 60;solid 1");
            t.due("spans", new int[] {x.span(0, 0), x.span(0, 1), x.span(1, 0), x.span(1, 1)}, 1, 0, 2, 0);
            t.due("pages", x.pour(), 4);
        });
        t.test("and its height less is free (0 at least);", () -> {
            int[][] due = {{0, 0, 0}, {1, 0, 0}, {1, 0, 0}};
            for (int i = 0; i < 3; i++) {
                ColumnsLevelled x = Texts.of("height 10;columns 1;span " + (9 + i) + ";solid 1");
                t.due("span " + (9 + i), Texts.where(x, 0), due[i]);
                t.due("span " + (9 + i), Texts.span(x, 0), 0, 0);
            }
            t.due("above", Texts.of("height 10;columns 1;span 9;solid 1").column(0, 9), 9);
            t.due("too high", Texts.where(Texts.of("height 10;columns 1;span 9;solid 2"), 0), 1, 0, 0);
            ColumnsLevelled x = Texts.of("height 10;columns 1;span 60;span 1");
            t.due("behind one that is too high", Texts.span(x, 1), 1, 0);
        });
        t.test("else likewise on the next PAGE.", () -> {
            ColumnsLevelled x = Texts.of("height 10;columns 1;solid 4;span 7;solid 3");
            t.due("span", Texts.span(x, 0), 1, 0);
            t.due("solid", Texts.column(x, 1), 1, 0, 1, 1, 2, 3, 0, 0, 0, 7, 3, 1);
        });
        t.test("A SECTION of no PIECES takes nothing.", () -> {
            ColumnsLevelled x = Texts.of("height 10;columns 1;span 3;span 4;solid 2;span 1");
            t.due("spans", new int[] {x.span(0, 1), x.span(1, 1), x.span(2, 1)}, 0, 3, 9);
            t.due("columns", x.column(NONE, 0), 1);
            t.due("column", Texts.column(x, 0), 0, 0, 2, 0, 1, 2, 0, 0, 0, 7, 2, 1);
            t.due("page", Texts.page(x, 0), 1, 1, 3, 0, 1);
            t.due("pages", x.pour(), 1);
        });
    }

    private static void levelled() {
        t.term("LEVELLED");
        t.test("Else, as long as it is not done: FITS what is left of it in COLUMNS of what is free: it is LEVELLED: the least height by which it FITS;", () -> {
            int[][] due = {{7, 1, 4}, {19, 1, 10}, {20, 1, 10}};
            for (int[] d : due) {
                ColumnsLevelled x = Texts.of(TWO + "lines " + d[0] + " 1");
                t.due("levelled", new int[] {x.pour(), x.column(0, 11), x.column(0, 10)}, 1, d[1], d[2]);
            }
            ColumnsLevelled x = Texts.of(TWO + "lines 21 1");
            t.due("filled", new int[] {x.pour(), x.column(0, 11), x.column(2, 11), x.column(2, 10)}, 2, 0, 1, 1);
            x = Texts.of(TWO + "span 4;lines 12 1");
            t.due("levelled", new int[] {x.pour(), x.column(0, 11), x.column(0, 10)}, 1, 1, 6);
            x = Texts.of(TWO + "span 4;lines 13 1");
            t.due("filled", new int[] {x.pour(), x.column(0, 11), x.column(0, 10)}, 2, 0, 6);
            // the same where least() was asked ahead of it
            x = Texts.of(TWO + "lines 20 1");
            t.due("levelled", new int[] {x.least(0), x.pour(), x.column(0, 11)}, 10, 1, 1);
            x = Texts.of(TWO + "lines 21 1");
            t.due("filled", new int[] {x.least(0), x.pour(), x.column(0, 11)}, 11, 2, 0);
        });
        t.test("the first column ends as late as it can so that the rest still FITS, then the second one, ..;", () -> {
            ColumnsLevelled x = Texts.of("columns 3;orphans 1;widows 1;lines 7 1");
            t.due("ends", new int[] {x.column(0, 4), x.column(1, 4), x.column(2, 4)}, 3, 6, 7);
            // were the solid of 5 in the line's column, 8 note lines would be CARRIED on, and 5 stand there
            x = Texts.of("columns 2;rule 0;lines 1 1 mark 1 9;solid 5 space 2;solid 5");
            t.due("it could end there", x.reach(0, 1, 10), 2);
            t.due("column 0", Texts.column(x, 0), 0, 0, 0, 0, 1, 1, 0, 9, 9, 0, 10, 1);
            t.due("column 1", Texts.column(x, 1), 0, 1, 0, 1, 3, 10, 0, 0, 0, 0, 10, 1);
            x = Texts.of("columns 3;rule 0;solid 10;lines 1 1 mark 1 9;solid 5 space 2;solid 5");
            t.due("ends", new int[] {x.column(0, 4), x.column(1, 4), x.column(2, 4)}, 1, 2, 4);
        });
        t.test("so much less is free, and the SECTION is done.", () -> {
            ColumnsLevelled x = Texts.of(TWO + "lines 8 1;span 1;lines 10 1");
            t.due("pages", x.pour(), 1);
            t.due("span", Texts.span(x, 0), 0, 4);
            t.due("column 2", Texts.column(x, 2), 0, 0, 1, 8, 13, 5, 0, 0, 0, 5, 5, 1);
            t.due("columns", x.column(NONE, 0), 4);
            t.due("one line more", Texts.of(TWO + "lines 8 1;span 1;lines 11 1").pour(), 2);
        });
    }

    private static void filled() {
        t.term("FILLED");
        t.test("If it does not: on a PAGE all of whose HEIGHT is free each column, one behind the other, ends as late as it CAN END (it is FILLED),", () -> {
            // late though 7 note lines are CARRIED on so
            ColumnsLevelled x = Texts.of(ALONE + "rule 0;lines 1 1 mark 1 9;solid 5 space 2;solid 5");
            t.due("column 0", Texts.column(x, 0), 0, 0, 0, 0, 2, 8, 0, 9, 2, 0, 10, 0);
            t.due("column 1", Texts.column(x, 1), 1, 0, 0, 2, 3, 5, 7, 0, 5, 0, 10, 0);
            t.due("column 2", Texts.column(x, 2), 2, 0, 0, 3, 3, 0, 2, 0, 2, 0, 2, 1);
            x = Texts.of(TWO + "solid 4;solid 6;solid 5;solid 5;solid 1");
            t.due("ends", new int[] {x.column(0, 4), x.column(1, 4), x.column(2, 4)}, 2, 4, 5);
        });
        t.test("and the rest goes on on the next PAGE;", () -> {
            ColumnsLevelled x = Texts.of(ALONE + "lines 25 1");
            t.due("pages", new int[] {x.column(0, 0), x.column(1, 0), x.column(2, 0)}, 0, 1, 2);
            t.due("begins", new int[] {x.column(0, 3), x.column(1, 3), x.column(2, 3)}, 0, 10, 20);
            t.due("the last page", Texts.column(x, 2), 2, 0, 0, 20, 25, 5, 0, 0, 0, 0, 5, 1);
        });
        t.test("on another PAGE likewise,", () -> {
            ColumnsLevelled x = Texts.of(TWO + "span 6;lines 10 1");
            t.due("column 0", Texts.column(x, 0), 0, 0, 1, 0, 4, 4, 0, 0, 0, 6, 4, 0);
            t.due("column 1", Texts.column(x, 1), 0, 1, 1, 4, 8, 4, 0, 0, 0, 6, 4, 0);
            t.due("column 2", Texts.column(x, 2), 1, 0, 1, 8, 9, 1, 0, 0, 0, 0, 1, 1);
            t.due("columns", x.column(NONE, 0), 4);
        });
    }

    private static void nothingStands() {
        t.term("POURED");
        t.test("but if no PIECE and no note line would come to stand in any of its columns so, nothing stands there (no columns).", () -> {
            ColumnsLevelled x = Texts.of("height 10;columns 2;span 6;solid 5");
            t.due("columns", x.column(NONE, 0), 2);
            t.due("page 0", Texts.page(x, 0), 0, 0, 1, 0, 0);
            t.due("column 0", Texts.column(x, 0), 1, 0, 1, 0, 1, 5, 0, 0, 0, 0, 5, 1);
            // one PIECE is enough
            x = Texts.of("height 10;columns 2;span 6;solid 4;solid 5");
            t.due("columns", x.column(NONE, 0), 4);
            t.due("page 0", Texts.page(x, 0), 2, 1, 1, 0, 1);
        });
        t.test("If on a PAGE all of whose HEIGHT is free no PIECE and no note line would come to stand,", () -> {
            t.due("too high", Texts.of(ALONE + "solid 11").pour(), -2);
            t.due("as high", Texts.of(ALONE + "solid 10").pour(), 1);
            t.due("tied", Texts.of(ALONE + "solid 6 tied;solid 5").pour(), -2);
            t.due("a head and what follows", Texts.of(ALONE + "head 5;solid 6").pour(), -2);
            t.due("a mark's line", Texts.of(ALONE + "rule 9;lines 1 1 mark 1 1").pour(), -2);
            t.due("the table's head again", Texts.of(ALONE + "table 9 2 1").pour(), 2);
            // PAGES of note lines alone
            t.due("note lines", Texts.of(ALONE + "rule 0;lines 1 1 mark 1 20").pour(), 3);
        });
        t.test("or a column CAN not END at all,", TermSentencesTest::columnsAlwaysCanEnd);
        t.test("(A column that CAN not END at all, on a PAGE of which less is free: nothing stands on that PAGE of the rest.)",
            TermSentencesTest::columnsAlwaysCanEnd);
    }

    /**
     * It never comes about: a first column may end ahead of all, and where something is CARRIED on, RULE
     * and a line had room in the column ahead. The tightest columns are asked.
     */
    private static void columnsAlwaysCanEnd() {
        for (int note = 1; note <= 3; note++) {
            ColumnsLevelled x = Texts.of(ALONE + "note " + note + ";rule " + (9 - note) + ";lines 1 1 mark 1 7");
            int byOne = note == 1 ? 2 : 1;
            int pages = 1 + (6 + byOne - 1) / byOne;
            t.due("one line on the first page", x.column(0, 8), 1);
            t.due("pages", x.pour(), pages);
            for (int k = 1; k <= 5; k++) {
                t.due("reach", x.reach(0, k, 0), 0);
                t.due("reach", x.reach(0, k, 10), 1);
            }
            t.due("below a span", Texts.tell(x, "height 20;columns 1;note " + note + ";rule " + (9 - note)
                + ";span 10;lines 1 1 mark 1 7"), 1);
            t.due("one line on the first page", x.column(0, 8), 1);
            t.due("it goes on", x.column(1, 6), 6);
        }
    }

    private static void stuck() {
        t.term("STUCK");
        t.test("nothing stands on it, and it is STUCK at the first PIECE that is left", () -> {
            ColumnsLevelled x = Texts.of(ALONE + "solid 3;head 5;solid 6");
            t.due("pour", x.pour(), -2 - 1);
            t.due("columns", x.column(NONE, 0), 1);
            t.due("page 1", Texts.page(x, 1), 0, 0, 0, 0, 0);
            t.due("where", Texts.where(x, 1), -2, -2, -2);
            t.due("what stood already", Texts.where(x, 0), 0, 0, 0);
            t.due("in another section", Texts.of(ALONE + "solid 3;span 1;solid 11;span 1").pour(), -2 - 1);
        });
        t.test("(the SECTION's end, if there is none),", () -> {
            // eleven PAGES for each NOTE, the fourth one's goes on behind PAGE 39
            ColumnsLevelled x = Texts.of(ALONE + "rule 8;lines 4 1 mark 1 20 mark 2 20 mark 3 20 mark 4 20");
            t.due("pour", x.pour(), -2 - 4);
            t.due("column 39", Texts.column(x, 39), 39, 0, 0, 4, 4, 0, 9, 0, 2, 0, 10, 0);
        });
        t.test("as it is behind PAGE 39 where something is left over or another span comes.", () -> {
            t.due("forty pages", Texts.of(ALONE + "lines 30 9;lines 10 9").pour(), 40);
            t.due("a line more", Texts.of(ALONE + "lines 30 9;lines 11 9").pour(), -2 - 40);
            t.due("a span on page 39", Texts.of(ALONE + "lines 30 9;lines 10 9;span 1").pour(), 40);
            t.due("a span behind it", Texts.of(ALONE + "lines 30 9;lines 10 9;span 2").pour(), -2 - 40);
            t.due("by its room", Texts.of(ALONE + "room 1;lines 30 9;lines 10 9;span 1").pour(), -2 - 40);
            ColumnsLevelled x = Texts.of(ALONE + "lines 30 9;lines 9 9;span 9;solid 2;solid 1");
            t.due("below a span", x.pour(), -2 - 39);
            t.due("the span", Texts.span(x, 0), 39, 0);
            t.due("columns", x.column(NONE, 0), 39);
            x = Texts.of(ALONE + "lines 30 9;lines 10 9;span 2;solid 1");
            t.due("the solid behind it", x.pour(), -2 - 40);
            t.due("its span", Texts.span(x, 0), -2, -2);
        });
    }

    private static void acts() {
        t.term("ACTS");
        t.test("ACTS: all from set() to drop().", () -> {
            ColumnsLevelled x = Texts.of("solid 1;solid 2");
            x.set(0, 1);
            t.due("set", x.count(4), 1);
            x.tie(0, true);
            t.due("tie", x.count(4), 2);
            x.space(0, 1);
            t.due("space", x.count(4), 3);
            x.swap(0, 1);
            t.due("swap", x.count(4), 4);
            x.again(0);
            t.due("again", x.count(4), 5);
            x.drop(0);
            t.due("drop", x.count(4), 6);
            x.feed(0, 0, 0, 0, 0);
            x.end(0);
            x.keep(0);
            x.trial(0, 3);
            x.order(0);
            t.due("others are none", x.count(4), 6);
        });
        t.test("The last 10 can be UNDONE, the last first.", () -> {
            ColumnsLevelled x = Texts.of("solid 1");
            for (int i = 1; i <= 23; i++) {
                x.set(1, 60 + i);
                t.due("acts", x.count(4), Math.min(i, 10));
            }
            for (int i = 9; i >= 0; i--) {
                t.due("undo", x.undo(), i);
                t.due("height", x.count(11), 73 + i);
            }
            t.due("undo", x.undo(), NONE);
            t.due("height", x.count(11), 73);
        });
        t.term("SHELVES");
        t.test("SHELVES 0, 1: RUN and SETTINGS.", () -> {
            ColumnsLevelled x = Texts.of("note 3;solid 1");
            t.due("keep", new int[] {x.keep(-1), x.keep(0), x.keep(2)}, NONE, 1, NONE);
            Texts.tell(x, "rule 9;head 2;span 3");
            t.due("keep", x.keep(1), 2);
            Texts.tell(x, "");
            Texts.feed(x, "solid 5");
            t.due("back", new int[] {x.back(-1), x.back(2), x.back(0)}, NONE, NONE, 1);
            t.due("shelf 0", new int[] {x.block(0, 0), x.count(15), x.count(16)}, 1, 3, 1);
            t.due("back", x.back(1), 2);
            t.due("shelf 1", new int[] {x.block(0, 0), x.block(1, 0), x.count(15), x.count(16)}, 2, 4, 1, 9);
            t.due("the tape is not kept", x.count(5), 7);
        });
        t.term("NONE");
        t.test("Where NONE and another answer fit, it is NONE.", () -> {
            t.due("set", new ColumnsLevelled().set(8, 0), NONE);
            t.due("tie", Texts.of("span 1").tie(0, false), NONE);
            t.due("space", Texts.of("span 1").space(0, 0), NONE);
            t.due("again", Texts.of(SIXTEEN.substring(0, 111)).again(16), NONE);
            t.due("back", new ColumnsLevelled().back(2), NONE);
            t.due("where", Texts.of(ALONE + "solid 11").where(0, 3), NONE);
            t.due("note", Texts.of(ALONE + "rule 9;lines 1 9 mark 1 1").note(0, 4), NONE);
            t.due("span", Texts.of(ALONE + "solid 11;span 1").span(0, 2), NONE);
            t.due("least", new ColumnsLevelled().least(0), NONE);
            t.due("reach", Texts.of("solid 1").reach(0, 6, 0), NONE);
            String high = "columns 1;" + "solid 200;".repeat(10) + "solid 200";
            t.due("costs", Texts.of(high).costs(0, 5), NONE);
            t.due("narrow", Texts.of(high).narrow(0, 2001), NONE);
            t.due("untie", Texts.of(high).untie(0, -1), NONE);
            t.due("even", Texts.of(high).even(1), NONE);
            t.due("loose", Texts.of(ALONE + "solid 11").loose(3), NONE);
            t.due("order", new ColumnsLevelled().order(2), NONE);
        });
        t.test("The constants: `NONE = -1`: None.", () -> t.due("NONE", ColumnsLevelled.NONE, -1));
    }
}
