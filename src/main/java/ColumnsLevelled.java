/**
 * A run of blocks poured into columns, page by page: columns levelled above each head that stands
 * across all of them, notes at the foot of the column in which their marks stand. What is asked is
 * told in shared/DOC.md, whose words in capitals this file uses.
 */
public final class ColumnsLevelled {

    public static final int NONE = -1;

    /** The answer -2 of the document: it is so already, by none, nowhere, nothing kept. */
    private static final int NOT = -2;

    private static final int MOST_BLOCKS = 16;
    private static final int MOST_PIECES = 90;
    /** Places at which a column may begin or end: ahead of each PIECE and behind the last one. */
    private static final int PLACES = MOST_PIECES + 1;
    private static final int MOST_SECTIONS = MOST_BLOCKS + 1;
    private static final int MOST_COLUMNS = 5;
    private static final int MOST_MARKS = 4;
    private static final int MOST_NOTES = MOST_BLOCKS * MOST_MARKS;
    /** A NOTE has 20 lines at most, and one of them stands by its MARK: 0 to 19 are CARRIED. */
    private static final int CARRIES = 20;
    private static final int LAST_PAGE = 39;
    private static final int MOST_TAPE = 400;
    private static final int MOST_ACTS = 10;
    private static final int SHELVES = 2;
    private static final int MOST_HEIGHT = 2000;
    private static final int MOST_ASKED_TIES = 8;
    /** 40 PAGES, and 8 SECTIONS with PIECES among 16 BLOCKS: so often columns are begun. */
    private static final int MOST_ROWS = (LAST_PAGE + 1 + MOST_BLOCKS / 2) * MOST_COLUMNS;

    private static final int LINES = 0;
    private static final int SOLID = 1;
    private static final int HEAD = 2;
    private static final int TABLE = 3;
    private static final int SPAN = 4;

    private static final int COLUMNS = 0;
    private static final int HEIGHT = 1;
    private static final int ORPHANS = 2;
    private static final int WIDOWS = 3;
    private static final int FOLLOW = 4;
    private static final int NOTE = 5;
    private static final int RULE = 6;
    private static final int ROOM = 7;
    private static final int SETTINGS = 8;
    private static final int[] SETTING_FIRST = {2, 60, 2, 2, 2, 1, 1, 0};
    private static final int[] SETTING_LEAST = {1, 10, 1, 1, 0, 1, 0, 0};
    private static final int[] SETTING_MOST = {5, 400, 9, 9, 9, 3, 9, 60};

    private final Run run;
    private final Tape tape;
    private final Teller teller;
    private final Past past;
    private final Run[] shelves;
    private int shelved;
    /** What the RUN is now. */
    private final Press shown;
    /** What another RUN, or other SETTINGS, would make of it. */
    private final Press asked;
    private final Walker walker;
    private boolean laid;
    private boolean poured;

    public ColumnsLevelled() {
        run = new Run();
        tape = new Tape();
        teller = new Teller(tape);
        past = new Past();
        shelves = new Run[SHELVES];
        for (int i = 0; i < SHELVES; i++) {
            shelves[i] = new Run();
        }
        shown = new Press(run, MOST_ROWS);
        asked = new Press(new Run(), MOST_COLUMNS);
        walker = new Walker(shown);
    }

    // ---- the tape ----

    public int feed(int a, int b, int c, int d, int e) {
        if (tape.length + 20 > MOST_TAPE) {
            return NONE;
        }
        tape.append(a);
        tape.append(b);
        tape.append(c);
        tape.append(d);
        tape.append(e);
        return tape.length;
    }

    public int end(int n) {
        if (n < 0 || n > tape.length) {
            return NONE;
        }
        tape.length = n;
        return n;
    }

    public int tell() {
        int answer = teller.read();
        tape.length = 0;
        if (answer >= 0) {
            run.copyFrom(teller.draft);
            past.acts = 0;
            changed();
        }
        return answer;
    }

    // ---- acts ----

    public int set(int what, int value) {
        if (!Run.takes(what, value)) {
            return NONE;
        }
        int was = run.setting(what);
        if (was == value) {
            return NOT;
        }
        beginAct();
        run.put(what, value);
        return was;
    }

    public int tie(int block, boolean tied) {
        if (!run.hasPieces(block)) {
            return NONE;
        }
        int bit = tied ? 1 : 0;
        if (run.cell(block, Run.TIED) == bit) {
            return NOT;
        }
        beginAct();
        run.putCell(block, Run.TIED, bit);
        return 1;
    }

    public int space(int block, int space) {
        if (!run.hasPieces(block) || space < 0 || space > 30) {
            return NONE;
        }
        int was = run.cell(block, Run.GAP);
        if (was == space) {
            return NOT;
        }
        beginAct();
        run.putCell(block, Run.GAP, space);
        return was;
    }

    public int swap(int block, int other) {
        if (!run.has(block) || !run.has(other) || block == other) {
            return NONE;
        }
        beginAct();
        run.exchange(block, other);
        return 1;
    }

    public int again(int block) {
        if (!run.has(block)) {
            return NONE;
        }
        if (run.blocks >= MOST_BLOCKS || run.allPieces() + run.cell(block, Run.NUMBER) > MOST_PIECES) {
            return NOT;
        }
        beginAct();
        run.repeat(block);
        return run.blocks;
    }

    public int drop(int block) {
        if (!run.has(block)) {
            return NONE;
        }
        beginAct();
        run.remove(block);
        return run.blocks;
    }

    public int undo() {
        if (past.acts == 0) {
            return NONE;
        }
        past.pop(run);
        changed();
        return past.acts;
    }

    public int keep(int shelf) {
        if (shelf < 0 || shelf >= shelves.length) {
            return NONE;
        }
        shelves[shelf].copyFrom(run);
        shelved |= 1 << shelf;
        return run.blocks;
    }

    public int back(int shelf) {
        if (shelf < 0 || shelf >= shelves.length) {
            return NONE;
        }
        if ((shelved >> shelf & 1) == 0) {
            return NOT;
        }
        run.copyFrom(shelves[shelf]);
        past.acts = 0;
        changed();
        return run.blocks;
    }

    // ---- what there is ----

    public int block(int block, int what) {
        if (!run.has(block)) {
            return NONE;
        }
        switch (what) {
            case 0: return run.cell(block, Run.KIND);
            case 1: return run.cell(block, Run.NUMBER);
            case 2: return at(laidOut().flow.firsts, block);
            case 3: return run.cell(block, Run.HIGH);
            case 4: return run.cell(block, Run.TOP);
            case 5: return run.cell(block, Run.TIED);
            case 6: return run.cell(block, Run.WHOLE);
            case 7: return run.cell(block, Run.GAP);
            case 8: return run.cell(block, Run.MARKS);
            default: return NONE;
        }
    }

    public int piece(int piece, int what) {
        Flow flow = laidOut().flow;
        if (piece < 0 || piece >= flow.pieces) {
            return NONE;
        }
        switch (what) {
            case 0: return at(flow.owners, piece);
            case 1: return at(flow.numbers, piece);
            case 2: return at(flow.heights, piece);
            case 3: return at(flow.gaps, piece);
            case 4: return at(flow.noteLines, piece);
            case 5: return flow.mayEnd(piece + 1) ? 1 : 0;
            case 6: return at(flow.parts, piece);
            default: return NONE;
        }
    }

    public int section(int section, int what) {
        Flow flow = laidOut().flow;
        if (section < 0 || section >= flow.sections) {
            return NONE;
        }
        int begin = at(flow.begins, section);
        int finish = at(flow.finishes, section);
        switch (what) {
            case 0: return begin;
            case 1: return finish;
            case 2: return at(flow.spanHeights, section);
            case 3: return flow.endsIn(begin, finish);
            case 4: return flow.ownLines(begin, finish);
            default: return NONE;
        }
    }

    public int count(int what) {
        if (what >= 10 && what < 10 + SETTINGS) {
            return run.setting(what - 10);
        }
        switch (what) {
            case 0: return run.blocks;
            case 1: return laidOut().flow.pieces;
            case 2: return laidOut().flow.sections;
            case 3: return laidOut().flow.notes;
            case 4: return past.acts;
            case 5: return tape.length;
            case 6: return shelved;
            case 7: return laidOut().flow.spans();
            default: return NONE;
        }
    }

    // ---- as it is poured ----

    public int pour() {
        return pouredNow().answer();
    }

    public int column(int i, int what) {
        Press press = pouredNow();
        if (i == NONE && what == 0) {
            return press.columns;
        }
        if (i < 0 || i >= press.columns || what < 0 || what >= Press.ROW) {
            return NONE;
        }
        return press.cell(i, what);
    }

    public int where(int piece, int what) {
        Press press = pouredNow();
        if (piece < 0 || piece >= press.flow.pieces || what < 0 || what > 2) {
            return NONE;
        }
        int i = press.columnOf(piece);
        if (i == NONE) {
            return NOT;
        }
        switch (what) {
            case 0: return press.cell(i, Press.PAGE);
            case 1: return i;
            default: return press.flow.above(press.cell(i, Press.FROM), piece);
        }
    }

    public int note(int k, int what) {
        Press press = pouredNow();
        if (k == NONE && what == 0) {
            return press.flow.notes;
        }
        if (k < 0 || k >= press.flow.notes || what < 0 || what > 3) {
            return NONE;
        }
        int piece = at(press.flow.notePieces, k);
        switch (what) {
            case 0: return piece;
            case 1: return at(press.flow.noteLines, piece);
            case 2: return press.linesByMark(piece);
            default: return press.columnsOfNote(piece);
        }
    }

    public int span(int k, int what) {
        Press press = pouredNow();
        if (k < 0 || k >= press.flow.spans() || what < 0 || what > 1) {
            return NONE;
        }
        if (k >= press.spansPut) {
            return NOT;
        }
        return what == 0 ? at(press.spanPages, k) : at(press.spanAboves, k);
    }

    public int loose(int what) {
        if (what < 0 || what > 2) {
            return NONE;
        }
        Press press = pouredNow();
        if (press.stuck != NONE) {
            return press.answer();
        }
        int sum = 0;
        int most = 0;
        int which = NOT;
        for (int i = 0; i < press.columns; i++) {
            int unused = press.cell(i, Press.HIGH) - press.used(i);
            sum += unused;
            if (which == NOT || unused > most) {
                most = unused;
                which = i;
            }
        }
        switch (what) {
            case 0: return sum;
            case 1: return most;
            default: return which;
        }
    }

    public int page(int k, int what) {
        Press press = pouredNow();
        if (k < 0 || k > press.page || press.flow.sections == 0) {
            return NONE;
        }
        switch (what) {
            case 0: return press.columnsOn(k);
            case 1: return press.piecesOn(k);
            case 2: return press.spansOn(k);
            case 3: return press.noteLinesOn(k);
            case 4: return press.sectionsOn(k);
            default: return NONE;
        }
    }

    // ---- a section by itself ----

    public int fits(int section, int height) {
        if (!asks(section, height)) {
            return NONE;
        }
        return shown.fitter.fitsAll(section, run.setting(COLUMNS), height) ? 1 : 0;
    }

    public int least(int section) {
        if (!asks(section, 0)) {
            return NONE;
        }
        return shown.fitter.leastOf(section);
    }

    public int reach(int section, int k, int height) {
        if (!asks(section, height) || k < 1 || k > MOST_COLUMNS) {
            return NONE;
        }
        return walker.farthest(section, k, height);
    }

    public int ways(int section, int height) {
        if (!asks(section, height)) {
            return NONE;
        }
        return walker.rowsOfEnds(section, run.setting(COLUMNS), height);
    }

    public int narrow(int section, int height) {
        if (!asks(section, height)) {
            return NONE;
        }
        for (int k = 1; k <= MOST_COLUMNS; k++) {
            if (shown.fitter.fitsAll(section, k, height)) {
                return k;
            }
        }
        return NOT;
    }

    public int even(int section) {
        if (!asks(section, 0)) {
            return NONE;
        }
        int height = shown.fitter.leastOf(section);
        if (height == NOT) {
            return NOT;
        }
        asked.run.copyFrom(run);
        asked.lay();
        asked.levelAlone(section, height);
        return asked.difference();
    }

    public int costs(int section, int law) {
        if (!asks(section, 0) || law < 0 || law > 4) {
            return NONE;
        }
        int now = shown.fitter.leastOf(section);
        if (now == NOT) {
            return NOT;
        }
        asked.run.copyFrom(run);
        asked.run.withoutLaw(law);
        asked.lay();
        return now - asked.fitter.leastOf(section);
    }

    public int untie(int section, int height) {
        if (!asks(section, height)) {
            return NONE;
        }
        asked.run.copyFrom(run);
        asked.lay();
        int ties = asked.flow.tiesIn(section);
        if (!fitsUntied(section, height, ties)) {
            return NOT;
        }
        int most = Integer.bitCount(ties);
        for (int many = 0; many < most; many++) {
            int some = untiedBy(section, height, ties, many);
            if (some != NOT) {
                return some;
            }
        }
        return ties;
    }

    // ---- what else it could be ----

    public int trial(int what, int value) {
        if (!Run.takes(what, value)) {
            return NONE;
        }
        asked.run.copyFrom(run);
        asked.run.put(what, value);
        asked.lay();
        return asked.pourAll();
    }

    public int tall(int n) {
        if (n < 0 || n > LAST_PAGE + 1) {
            return NONE;
        }
        asked.run.copyFrom(run);
        asked.lay();
        int most = SETTING_MOST[HEIGHT];
        int needed = asked.flow.allHeights();
        for (int height = SETTING_LEAST[HEIGHT]; height <= most; height++) {
            // so many PAGES can not hold more than this: no need to pour
            if (n * run.setting(COLUMNS) * height >= needed) {
                asked.run.put(HEIGHT, height);
                int pages = asked.pourAll();
                if (pages >= 0 && pages <= n) {
                    return height;
                }
            }
        }
        return NOT;
    }

    public int order(int what) {
        if (what < 0 || what > 1) {
            return NONE;
        }
        asked.run.copyFrom(run);
        int first = NOT;
        int fewest = NOT;
        for (int i = 0; i + 1 < run.blocks; i++) {
            asked.run.exchange(i, i + 1);
            asked.lay();
            int pages = asked.pourAll();
            asked.run.exchange(i, i + 1);
            if (pages >= 0 && (fewest == NOT || pages < fewest)) {
                fewest = pages;
                first = i;
            }
        }
        return what == 0 ? first : fewest;
    }

    // ---- helpers of the face ----

    private static int at(int[] row, int i) {
        return i >= 0 && i < row.length ? row[i] : 0;
    }

    private void beginAct() {
        past.push(run);
        changed();
    }

    private void changed() {
        laid = false;
        poured = false;
    }

    private Press laidOut() {
        if (!laid) {
            shown.lay();
            laid = true;
        }
        return shown;
    }

    private Press pouredNow() {
        Press press = laidOut();
        if (!poured) {
            press.pourAll();
            poured = true;
        }
        return press;
    }

    /** Whether there is that SECTION and such a height to be asked of; what is shown is laid out then. */
    private boolean asks(int section, int height) {
        return section >= 0 && section < laidOut().flow.sections && height >= 0 && height <= MOST_HEIGHT;
    }

    /** The least bits of so many of the ties by whose loosening it FITS, NOT without. */
    private int untiedBy(int section, int height, int ties, int many) {
        int some = 0;
        for (int i = 0; i < 1 << MOST_ASKED_TIES; i++) {
            if (Integer.bitCount(some) == many && fitsUntied(section, height, some)) {
                return some;
            }
            // the next part of the bits, by its number
            some = (some - ties) & ties;
        }
        return NOT;
    }

    private boolean fitsUntied(int section, int height, int bits) {
        for (int block = 0; block < run.blocks; block++) {
            int loose = bits >> block & 1;
            asked.run.putCell(block, Run.TIED, loose == 1 ? 0 : run.cell(block, Run.TIED));
        }
        asked.mark();
        return asked.fitter.fitsAll(section, run.setting(COLUMNS), height);
    }

    /** BLOCKS in a row and SETTINGS. */
    private static final class Run {

        static final int KIND = 0;
        /** How many PIECES it has. */
        static final int NUMBER = 1;
        static final int HIGH = 2;
        /** The height of a table's head. */
        static final int TOP = 3;
        static final int TIED = 4;
        static final int WHOLE = 5;
        static final int GAP = 6;
        static final int MARKS = 7;
        static final int MARK_LINE = 8;
        static final int MARK_NOTE = MARK_LINE + MOST_MARKS;
        static final int CELLS = MARK_NOTE + MOST_MARKS;

        int blocks;
        final int[] settings;
        final int[] cells;

        Run() {
            settings = new int[SETTINGS];
            cells = new int[MOST_BLOCKS * CELLS];
            clear();
        }

        /** Whether a SETTING can have that value. */
        static boolean takes(int what, int value) {
            return what >= 0 && what < SETTINGS && value >= SETTING_LEAST[what] && value <= SETTING_MOST[what];
        }

        void clear() {
            blocks = 0;
            for (int i = 0; i < SETTINGS; i++) {
                settings[i] = SETTING_FIRST[i];
            }
        }

        void copyFrom(Run other) {
            blocks = other.blocks;
            for (int i = 0; i < SETTINGS; i++) {
                settings[i] = other.settings[i];
            }
            for (int i = 0; i < cells.length; i++) {
                cells[i] = other.cells[i];
            }
        }

        int setting(int what) {
            return what >= 0 && what < SETTINGS ? settings[what] : 0;
        }

        void put(int what, int value) {
            if (takes(what, value)) {
                settings[what] = value;
            }
        }

        boolean has(int block) {
            return block >= 0 && block < blocks;
        }

        boolean hasPieces(int block) {
            return has(block) && cell(block, KIND) != SPAN;
        }

        int cell(int block, int which) {
            if (block < 0 || block >= MOST_BLOCKS || which < 0 || which >= CELLS) {
                return 0;
            }
            return cells[block * CELLS + which];
        }

        void putCell(int block, int which, int value) {
            if (block >= 0 && block < MOST_BLOCKS && which >= 0 && which < CELLS) {
                cells[block * CELLS + which] = value;
            }
        }

        int allPieces() {
            int all = 0;
            for (int block = 0; block < blocks; block++) {
                all += cell(block, NUMBER);
            }
            return all;
        }

        /** A new BLOCK of a kind behind the last one, with nothing told of it. */
        int add(int kind) {
            int block = blocks;
            if (block < MOST_BLOCKS) {
                for (int i = 0; i < CELLS; i++) {
                    putCell(block, i, 0);
                }
                putCell(block, KIND, kind);
                blocks++;
            }
            return block;
        }

        void exchange(int block, int other) {
            for (int i = 0; i < CELLS; i++) {
                int mine = cell(block, i);
                putCell(block, i, cell(other, i));
                putCell(other, i, mine);
            }
        }

        void repeat(int block) {
            int twin = add(cell(block, KIND));
            copyCells(block, twin);
        }

        void remove(int block) {
            for (int i = block; i + 1 < blocks; i++) {
                copyCells(i + 1, i);
            }
            blocks--;
        }

        private void copyCells(int block, int other) {
            for (int i = 0; i < CELLS; i++) {
                putCell(other, i, cell(block, i));
            }
        }

        /** Note lines of the MARK at a line (1 the first), 0 without one. */
        int noteAt(int block, int line) {
            int marks = cell(block, MARKS);
            for (int i = 0; i < marks && i < MOST_MARKS; i++) {
                if (cell(block, MARK_LINE + i) == line) {
                    return cell(block, MARK_NOTE + i);
                }
            }
            return 0;
        }

        void addMark(int block, int line, int lines) {
            int marks = cell(block, MARKS);
            if (marks >= 0 && marks < MOST_MARKS) {
                putCell(block, MARK_LINE + marks, line);
                putCell(block, MARK_NOTE + marks, lines);
                putCell(block, MARKS, marks + 1);
            }
        }

        /** 0 ORPHANS, 1 WIDOWS, 2 FOLLOW, 3 TIED, 4 whole: as if that law were none. */
        void withoutLaw(int law) {
            switch (law) {
                case 0: put(ORPHANS, 1); break;
                case 1: put(WIDOWS, 1); break;
                case 2: put(FOLLOW, 0); break;
                case 3: clearCells(TIED); break;
                default: clearCells(WHOLE); break;
            }
        }

        private void clearCells(int which) {
            for (int block = 0; block < blocks; block++) {
                putCell(block, which, 0);
            }
        }
    }

    /** The bytes that have come and are not told yet. */
    private static final class Tape {

        final int[] bytes;
        int length;

        Tape() {
            bytes = new int[MOST_TAPE];
        }

        /** Four bytes, the highest first. */
        void append(int number) {
            for (int shift = 24; shift >= 0; shift -= 8) {
                if (length >= 0 && length < bytes.length) {
                    bytes[length] = number >> shift & 255;
                    length++;
                }
            }
        }
    }

    /** Reads the TAPE, as far as it is a TEXT, into a draft of a RUN. */
    private static final class Teller {

        /** The WORDS by their numbers: the SETTINGS, the kinds of BLOCKS, what is told of BLOCKS. */
        private static final String WORDS = " columns height orphans widows follow note rule room lines solid head table span tied whole space mark ";
        private static final int WORD_LINES = SETTINGS;
        private static final int WORD_TIED = WORD_LINES + SPAN + 1;
        private static final int WORD_WHOLE = WORD_TIED + 1;
        private static final int WORD_SPACE = WORD_TIED + 2;
        private static final int WORD_MARK = WORD_TIED + 3;
        /** The signs that a TEXT is split into; ANOTHER is a byte that can stand nowhere. */
        private static final int WORD = 0;
        private static final int NUMBER = 1;
        private static final int SEMICOLON = 2;
        private static final int ANOTHER = 3;
        private static final int TEXT_END = 4;
        private static final int MOST_SIGNS = MOST_TAPE + 1;
        /** Far above every NUMBER that may stand, so that digits without end stay one number. */
        private static final int HUGE = 100000;

        private final Tape tape;
        final Run draft;
        private final int[] signs;
        private final int[] places;
        /** Which WORD (NONE: none of those), how much a NUMBER. */
        private final int[] values;
        private int next;
        private int fault;
        /** WORDS that stand once at most, as bits: SETTINGS of the TEXT, others of the BLOCK. */
        private int told;

        Teller(Tape tape) {
            this.tape = tape;
            draft = new Run();
            signs = new int[MOST_SIGNS];
            places = new int[MOST_SIGNS];
            values = new int[MOST_SIGNS];
        }

        /** How many PIECES it tells of; -2 - its FAULT. */
        int read() {
            draft.clear();
            split();
            next = 0;
            fault = NONE;
            told = 0;
            boolean more = sign() != TEXT_END;
            for (int i = 0; more && i < MOST_SIGNS; i++) {
                readPart();
                more = fault == NONE && sign() != TEXT_END;
                if (more && sign() != SEMICOLON) {
                    wrong(place(), 1);
                    more = false;
                }
                if (more) {
                    next++;
                }
            }
            return fault == NONE ? draft.allPieces() : NOT - fault;
        }

        private void split() {
            int many = 0;
            int place = 0;
            while (place < tape.length && many + 1 < MOST_SIGNS) {
                int begin = at(tape.bytes, place);
                place++;
                if (begin != ' ') {
                    int sign = signOf(begin);
                    places[many] = place - 1;
                    signs[many] = sign;
                    while ((sign == WORD || sign == NUMBER) && place < tape.length && signOf(at(tape.bytes, place)) == sign) {
                        place++;
                    }
                    values[many] = sign == WORD ? wordOf(places[many], place) : numberOf(places[many], place);
                    many++;
                }
            }
            signs[many] = TEXT_END;
            places[many] = tape.length;
        }

        private static int signOf(int b) {
            if (b >= 'a' && b <= 'z') {
                return WORD;
            }
            if (b >= '0' && b <= '9') {
                return NUMBER;
            }
            return b == ';' ? SEMICOLON : ANOTHER;
        }

        private int numberOf(int begin, int behind) {
            int number = 0;
            for (int i = begin; i < behind; i++) {
                number = Math.min(HUGE, number * 10 + at(tape.bytes, i) - '0');
            }
            return number;
        }

        private int wordOf(int begin, int behind) {
            int word = NONE;
            for (int i = 0; i < WORDS.length(); i++) {
                if (WORDS.charAt(i) == ' ') {
                    word++;
                    if (isWord(i + 1, begin, behind)) {
                        return word;
                    }
                }
            }
            return NONE;
        }

        /** Whether the letters of the TAPE are those of WORDS from an index to the next blank. */
        private boolean isWord(int index, int begin, int behind) {
            int length = behind - begin;
            if (index < 0 || length <= 0 || index + length >= WORDS.length() || WORDS.charAt(index + length) != ' ') {
                return false;
            }
            for (int i = 0; i < length; i++) {
                if (WORDS.charAt(index + i) != at(tape.bytes, begin + i)) {
                    return false;
                }
            }
            return true;
        }

        private void readPart() {
            int start = place();
            int word = readWord();
            if (word == NONE || word >= WORD_TIED) {
                wrong(start, 1);
            } else if (word < SETTINGS) {
                readSetting(word, start);
            } else {
                readBlock(word - WORD_LINES, start);
            }
        }

        private void readSetting(int what, int start) {
            tellOnce(what, start);
            int value = readNumber(at(SETTING_LEAST, what), at(SETTING_MOST, what));
            if (fault == NONE) {
                draft.put(what, value);
            }
        }

        private void readBlock(int kind, int start) {
            boolean single = kind == SOLID || kind == HEAD;
            int pieces = draft.allPieces();
            if (draft.blocks >= MOST_BLOCKS || single && pieces >= MOST_PIECES) {
                wrong(start, 3);
                return;
            }
            int block = draft.add(kind);
            if (kind == TABLE) {
                draft.putCell(block, Run.TOP, readNumber(0, 9));
            }
            int number = single ? 1 : 0;
            if (kind == LINES || kind == TABLE) {
                int where = place();
                number = readNumber(1, 30);
                if (pieces + number > MOST_PIECES) {
                    wrong(where, 3);
                }
            }
            draft.putCell(block, Run.NUMBER, number);
            draft.putCell(block, Run.HIGH, readNumber(1, mostHigh(kind)));
            if (kind != SPAN) {
                readWords(block, kind);
            }
        }

        private static int mostHigh(int kind) {
            switch (kind) {
                case SOLID: return 200;
                case HEAD: return 30;
                case SPAN: return 60;
                default: return 9;
            }
        }

        private void readWords(int block, int kind) {
            told &= (1 << SETTINGS) - 1;
            for (int i = 0; fault == NONE && sign() != TEXT_END && sign() != SEMICOLON && i < MOST_SIGNS; i++) {
                int start = place();
                int word = readWord();
                if (word == WORD_TIED) {
                    tellOnce(word, start);
                    draft.putCell(block, Run.TIED, 1);
                } else if (word == WORD_WHOLE && kind == LINES) {
                    tellOnce(word, start);
                    draft.putCell(block, Run.WHOLE, 1);
                } else if (word == WORD_SPACE) {
                    tellOnce(word, start);
                    draft.putCell(block, Run.GAP, readNumber(0, 30));
                } else if (word == WORD_MARK && kind == LINES) {
                    readMark(block, start);
                } else {
                    wrong(start, 1);
                }
            }
        }

        private void readMark(int block, int start) {
            if (draft.cell(block, Run.MARKS) >= MOST_MARKS) {
                wrong(start, 3);
            }
            int where = place();
            int line = readNumber(1, draft.cell(block, Run.NUMBER));
            if (draft.noteAt(block, line) > 0) {
                wrong(where, 2);
            }
            int lines = readNumber(1, 20);
            if (fault == NONE) {
                draft.addMark(block, line, lines);
            }
        }

        private void tellOnce(int word, int start) {
            if ((told >> word & 1) != 0) {
                wrong(start, 3);
            }
            told |= 1 << word;
        }

        /** The WORD that stands here; NONE if none of those does. */
        private int readWord() {
            if (sign() != WORD || next >= MOST_SIGNS) {
                return NONE;
            }
            int word = at(values, next);
            next++;
            return word;
        }

        /** A NUMBER from least to most; 0 if there is a FAULT, here or ahead. */
        private int readNumber(int least, int most) {
            if (fault != NONE) {
                return 0;
            }
            if (sign() != NUMBER) {
                wrong(place(), 1);
                return 0;
            }
            int number = at(values, next);
            if (number < least || number > most) {
                wrong(place(), 2);
                return 0;
            }
            next++;
            return number;
        }

        /** The first FAULT stays: what is read goes along the TEXT. */
        private void wrong(int where, int why) {
            if (fault == NONE) {
                fault = 8 * where + why;
            }
        }

        private int sign() {
            return next >= 0 && next < MOST_SIGNS ? signs[next] : TEXT_END;
        }

        private int place() {
            return next >= 0 && next < MOST_SIGNS ? places[next] : tape.length;
        }
    }

    /** What was ahead of each of the last ACTS, in a ring. */
    private static final class Past {

        private final Run[] runs;
        private int next;
        int acts;

        Past() {
            runs = new Run[MOST_ACTS];
            for (int i = 0; i < MOST_ACTS; i++) {
                runs[i] = new Run();
            }
        }

        void push(Run run) {
            if (next >= 0 && next < runs.length) {
                runs[next].copyFrom(run);
            }
            next = next + 1 < MOST_ACTS ? next + 1 : 0;
            acts = Math.min(acts + 1, MOST_ACTS);
        }

        void pop(Run run) {
            next = next > 0 ? next - 1 : MOST_ACTS - 1;
            acts = Math.max(acts - 1, 0);
            if (next < runs.length) {
                run.copyFrom(runs[next]);
            }
        }
    }

    /** The PIECES, NOTES, SECTIONS and ENDS of a RUN. */
    private static final class Flow {

        int pieces;
        int sections;
        int notes;
        private final Run run;
        /** By BLOCKS: its first PIECE. */
        final int[] firsts;
        /** By PIECES: its BLOCK, its number there, its height, SPACE ahead, note lines, SECTION. */
        final int[] owners;
        final int[] numbers;
        final int[] heights;
        final int[] gaps;
        final int[] noteLines;
        final int[] parts;
        /** By PIECES: the table's head that comes again if a column begins with it. */
        final int[] tops;
        /** By places: heights and SPACES, note lines of all PIECES ahead; lines of the last NOTE ahead. */
        final int[] heightsTo;
        final int[] linesTo;
        final int[] lastLines;
        final boolean[] ends;
        /** By SECTIONS. */
        final int[] begins;
        final int[] finishes;
        final int[] spanHeights;
        /** By NOTES. */
        final int[] notePieces;

        Flow(Run run) {
            this.run = run;
            firsts = new int[MOST_BLOCKS];
            owners = new int[PLACES];
            numbers = new int[PLACES];
            heights = new int[PLACES];
            gaps = new int[PLACES];
            noteLines = new int[PLACES];
            parts = new int[PLACES];
            tops = new int[PLACES];
            heightsTo = new int[PLACES];
            linesTo = new int[PLACES];
            lastLines = new int[PLACES];
            ends = new boolean[PLACES];
            begins = new int[MOST_SECTIONS];
            finishes = new int[MOST_SECTIONS];
            spanHeights = new int[MOST_SECTIONS];
            notePieces = new int[MOST_NOTES];
        }

        void lay() {
            pieces = 0;
            sections = 0;
            notes = 0;
            if (run.blocks > 0) {
                openSection(0);
            }
            for (int block = 0; block < run.blocks && block < MOST_BLOCKS; block++) {
                firsts[block] = pieces;
                if (run.cell(block, Run.KIND) == SPAN) {
                    openSection(run.cell(block, Run.HIGH));
                } else {
                    layPieces(block);
                }
            }
            markEnds();
        }

        private void openSection(int spanHeight) {
            if (sections < MOST_SECTIONS) {
                begins[sections] = pieces;
                finishes[sections] = pieces;
                spanHeights[sections] = spanHeight;
                sections++;
            }
        }

        private void layPieces(int block) {
            int number = run.cell(block, Run.NUMBER);
            int high = run.cell(block, Run.HIGH);
            int top = run.cell(block, Run.TOP);
            int section = sections - 1;
            for (int i = 0; i < number && pieces >= 0 && pieces < MOST_PIECES; i++) {
                int lines = run.noteAt(block, i + 1);
                owners[pieces] = block;
                numbers[pieces] = i;
                heights[pieces] = i == 0 ? high + top : high;
                gaps[pieces] = i == 0 ? run.cell(block, Run.GAP) : 0;
                noteLines[pieces] = lines;
                parts[pieces] = section;
                tops[pieces] = i == 0 ? 0 : top;
                heightsTo[pieces + 1] = heightsTo[pieces] + heights[pieces] + gaps[pieces];
                linesTo[pieces + 1] = linesTo[pieces] + lines;
                lastLines[pieces + 1] = lines > 0 ? lines : lastLines[pieces];
                if (lines > 0 && notes < MOST_NOTES) {
                    notePieces[notes] = pieces;
                    notes++;
                }
                pieces++;
            }
            if (section >= 0 && section < MOST_SECTIONS) {
                finishes[section] = pieces;
            }
        }

        void markEnds() {
            for (int piece = 0; piece < pieces && piece < MOST_PIECES; piece++) {
                ends[piece + 1] = endsBehind(owners[piece], numbers[piece] + 1);
            }
            for (int section = 0; section < sections && section < MOST_SECTIONS; section++) {
                markEnd(begins[section]);
                markEnd(finishes[section]);
            }
        }

        private void markEnd(int place) {
            if (place >= 0 && place < PLACES) {
                ends[place] = true;
            }
        }

        /** Whether a column may end behind the i-th PIECE of a BLOCK, if its SECTION goes on there. */
        private boolean endsBehind(int block, int i) {
            int kind = run.cell(block, Run.KIND);
            int behind = run.cell(block, Run.NUMBER) - i;
            if (behind <= 0) {
                return kind != HEAD && run.cell(block, Run.TIED) == 0;
            }
            if (kind != LINES) {
                return kind == TABLE;
            }
            boolean headed = block > 0 && run.cell(block - 1, Run.KIND) == HEAD;
            return run.cell(block, Run.WHOLE) == 0
                && i >= run.setting(ORPHANS)
                && (!headed || i >= run.setting(FOLLOW))
                && behind >= run.setting(WIDOWS);
        }

        int spans() {
            return Math.max(0, sections - 1);
        }

        boolean mayEnd(int place) {
            return place >= 0 && place < PLACES && ends[place];
        }

        int endsIn(int begin, int finish) {
            int many = 0;
            for (int place = begin; place <= finish; place++) {
                if (mayEnd(place)) {
                    many++;
                }
            }
            return many;
        }

        int allHeights() {
            int all = 0;
            for (int piece = 0; piece < pieces; piece++) {
                all += at(heights, piece);
            }
            return all;
        }

        /** OWN of the PIECES from one on to ahead of another. */
        int ownLines(int from, int to) {
            if (from < 0 || from >= to || to >= PLACES) {
                return 0;
            }
            return linesTo[to] - linesTo[from];
        }

        /** Note lines of the last NOTE ahead of a place. */
        int lastLinesAhead(int place) {
            return place >= 0 && place < PLACES ? lastLines[place] : 0;
        }

        /** TEXT of a column with the PIECES from one on to ahead of another. */
        int text(int from, int to) {
            if (from < 0 || from >= to || to >= PLACES) {
                return 0;
            }
            return heightsTo[to] - heightsTo[from] - gaps[from] + tops[from];
        }

        /** How much is above a PIECE in a column that begins with another. */
        int above(int from, int piece) {
            return piece == from ? at(tops, from) : text(from, piece) + at(gaps, piece);
        }

        /** The first BLOCKS of a SECTION that are TIED, as many as are asked, as bits. */
        int tiesIn(int section) {
            int bits = 0;
            int part = 0;
            for (int block = 0; block < run.blocks; block++) {
                boolean here = part == section && run.cell(block, Run.TIED) == 1;
                if (here && Integer.bitCount(bits) < MOST_ASKED_TIES) {
                    bits |= 1 << block;
                }
                if (run.cell(block, Run.KIND) == SPAN) {
                    part++;
                }
            }
            return bits;
        }
    }

    /** Tells how columns CAN END and whether SECTIONS FIT. */
    private static final class Fitter {

        private final Run run;
        private final Flow flow;
        private int rule;
        /** How high a note line is. */
        private int lineHigh;
        /**
         * By columns and places: with how much CARRIED, at most, what is behind a place FITS in so many
         * columns; NONE: by nothing. Less CARRIED never makes it worse, so this tells FITS whole.
         */
        private final int[][] bears;
        /** Of which SECTION and height the table is, and up to how many columns. */
        private int measuredSection;
        private int measuredHeight;
        private int measuredColumns;
        /** By places and CARRIED: the least height by which it FITS in COLUMNS; NONE: not known yet. */
        private final int[] known;
        private boolean learnt;

        Fitter(Run run, Flow flow) {
            this.run = run;
            this.flow = flow;
            bears = new int[MOST_COLUMNS + 1][PLACES];
            known = new int[PLACES * CARRIES];
            learnt = true;
            forget();
        }

        /** The RUN, or a SETTING other than HEIGHT and ROOM, is another one. */
        void forget() {
            rule = run.setting(RULE);
            lineHigh = run.setting(NOTE);
            measuredSection = NONE;
            if (learnt) {
                for (int i = 0; i < known.length; i++) {
                    known[i] = NONE;
                }
                learnt = false;
            }
        }

        /** What is CARRIED on from a column, NONE if it CAN not END so. */
        int leftOver(int from, int to, int carried, int height) {
            int room = height - flow.text(from, to);
            int own = flow.ownLines(from, to);
            if (own + carried == 0) {
                return room >= 0 ? 0 : NONE;
            }
            int lines = linesIn(room);
            int needed = own > 0 ? carried + own - flow.lastLinesAhead(to) + 1 : 1;
            return needed > lines ? NONE : Math.max(0, own + carried - lines);
        }

        /** How many note lines stand below RULE where so much is left by the TEXT. */
        private int linesIn(int room) {
            return room < rule || lineHigh <= 0 ? 0 : (room - rule) / lineHigh;
        }

        /** Whether a SECTION FITS from its first PIECE on, with nothing CARRIED. */
        boolean fitsAll(int section, int columns, int height) {
            measure(section, columns, height);
            return bearsAt(columns, at(flow.begins, section)) >= 0;
        }

        int bearsAt(int columns, int place) {
            return columns >= 0 && columns <= MOST_COLUMNS ? at(bears[columns], place) : NONE;
        }

        int leastOf(int section) {
            return leastFrom(section, at(flow.begins, section), 0, MOST_HEIGHT);
        }

        /** The least height, the top one at most, by which a SECTION FITS from a place on; NOT without. */
        int leastFrom(int section, int from, int carried, int top) {
            int slot = slotOf(section, from, carried);
            int least = slot == NONE ? NONE : at(known, slot);
            if (least != NONE) {
                return least <= top ? least : NOT;
            }
            int columns = run.setting(COLUMNS);
            measure(section, columns, top);
            if (bearsAt(columns, from) < carried) {
                return NOT;
            }
            int low = 0;
            least = top;
            for (int i = 0; i < MOST_HEIGHT && low < least; i++) {
                int middle = (low + least) / 2;
                measure(section, columns, middle);
                if (bearsAt(columns, from) >= carried) {
                    least = middle;
                } else {
                    low = middle + 1;
                }
            }
            if (slot >= 0 && slot < known.length) {
                known[slot] = least;
                learnt = true;
            }
            return least;
        }

        /** A SECTION's end has none: it may be where the next one begins. */
        private int slotOf(int section, int from, int carried) {
            boolean inside = from >= 0 && from < at(flow.finishes, section);
            return inside && carried >= 0 && carried < CARRIES ? from * CARRIES + carried : NONE;
        }

        /** Fills the table of a SECTION for a height, as far as so many columns. */
        void measure(int section, int columns, int height) {
            int begin = Math.max(0, at(flow.begins, section));
            int finish = Math.min(MOST_PIECES, at(flow.finishes, section));
            if (section != measuredSection || height != measuredHeight) {
                measuredSection = section;
                measuredHeight = height;
                measuredColumns = 0;
                for (int place = begin; place <= finish; place++) {
                    bears[0][place] = place == finish ? 0 : NONE;
                }
            }
            while (measuredColumns < columns && measuredColumns < MOST_COLUMNS) {
                int[] next = bears[measuredColumns];
                measuredColumns++;
                int[] row = bears[measuredColumns];
                for (int place = begin; place <= finish; place++) {
                    row[place] = flow.ends[place] ? bearsFrom(place, finish, next) : NONE;
                }
            }
        }

        /** The most CARRIED with which a column from a place on CAN END so that the next ones bear the rest. */
        private int bearsFrom(int from, int finish, int[] next) {
            int best = NONE;
            if (from < 0 || from > finish || finish >= PLACES || finish >= next.length) {
                return best;
            }
            int base = flow.heightsTo[from] + flow.gaps[from] - flow.tops[from];
            for (int to = from; to <= finish; to++) {
                int room = measuredHeight - (to == from ? 0 : flow.heightsTo[to] - base);
                if (room < 0) {
                    break;
                }
                if (flow.ends[to] && next[to] != NONE) {
                    int own = flow.linesTo[to] - flow.linesTo[from];
                    int lines = room < rule || lineHigh <= 0 ? 0 : (room - rule) / lineHigh;
                    int carried = lines == 0 ? 0 : lines + next[to];
                    if (own > 0) {
                        carried = lines - own + Math.min(next[to], flow.lastLines[to] - 1);
                    }
                    best = Math.max(best, carried);
                }
            }
            return best;
        }

        /** The last end of a column so that so many columns bear the rest (NONE: of any rest); NONE without. */
        int latest(int section, int from, int carried, int height, int columns) {
            for (int to = at(flow.finishes, section); to >= from; to--) {
                if (flow.mayEnd(to)) {
                    int left = leftOver(from, to, carried, height);
                    if (left != NONE && (columns == NONE || left <= bearsAt(columns, to))) {
                        return to;
                    }
                }
            }
            return NONE;
        }
    }

    /** Goes through columns of a height from a SECTION's begin on, by all ENDS at once. */
    private static final class Walker {

        private final Flow flow;
        private final Fitter fitter;
        /** The columns so far and those with the next one: the least CARRIED by places, NONE: not come to. */
        private final int[][] carries;
        /** Likewise: in how many ways, by places and CARRIED. */
        private final int[][] many;

        Walker(Press press) {
            flow = press.flow;
            fitter = press.fitter;
            carries = new int[2][PLACES];
            many = new int[2][PLACES * CARRIES];
        }

        int farthest(int section, int columns, int height) {
            int begin = Math.max(0, at(flow.begins, section));
            int finish = Math.min(MOST_PIECES, at(flow.finishes, section));
            if (begin > finish) {
                return NOT;
            }
            fillRow(carries[0], NONE);
            carries[0][begin] = 0;
            for (int i = 0; i < columns; i++) {
                int[] now = carries[i & 1];
                int[] next = carries[i + 1 & 1];
                fillRow(next, NONE);
                for (int from = begin; from <= finish; from++) {
                    if (now[from] != NONE) {
                        stepFarther(from, finish, now[from], height, next);
                    }
                }
            }
            for (int place = finish; place >= begin; place--) {
                if (carries[columns & 1][place] != NONE) {
                    return place;
                }
            }
            return NOT;
        }

        private void stepFarther(int from, int finish, int carried, int height, int[] next) {
            for (int to = from; to <= finish && to < next.length && flow.text(from, to) <= height; to++) {
                int left = flow.mayEnd(to) ? fitter.leftOver(from, to, carried, height) : NONE;
                if (left != NONE && (next[to] == NONE || left < next[to])) {
                    next[to] = left;
                }
            }
        }

        int rowsOfEnds(int section, int columns, int height) {
            int begin = Math.max(0, at(flow.begins, section));
            int finish = Math.min(MOST_PIECES, at(flow.finishes, section));
            if (begin > finish) {
                return 0;
            }
            fillRow(many[0], 0);
            many[0][begin * CARRIES] = 1;
            for (int i = 0; i < columns; i++) {
                int[] now = many[i & 1];
                int[] next = many[i + 1 & 1];
                fillRow(next, 0);
                for (int slot = begin * CARRIES; slot < (finish + 1) * CARRIES && slot < now.length; slot++) {
                    if (now[slot] > 0) {
                        stepWays(slot, finish, now[slot], height, next);
                    }
                }
            }
            return many[columns & 1][finish * CARRIES];
        }

        private void stepWays(int slot, int finish, int ways, int height, int[] next) {
            int from = slot / CARRIES;
            int carried = slot % CARRIES;
            for (int to = from; to <= finish && flow.text(from, to) <= height; to++) {
                int left = flow.mayEnd(to) ? fitter.leftOver(from, to, carried, height) : NONE;
                int end = to * CARRIES + left;
                if (left != NONE && left < CARRIES && end < next.length) {
                    next[end] += ways;
                }
            }
        }

        private static void fillRow(int[] row, int value) {
            for (int i = 0; i < row.length; i++) {
                row[i] = value;
            }
        }
    }

    /** Pours a RUN and holds where all came to stand. */
    private static final class Press {

        /** What a row tells of a column, in the order of the document. */
        static final int PAGE = 0;
        static final int NUMBER = 1;
        static final int SECTION = 2;
        static final int FROM = 3;
        static final int TO = 4;
        static final int TEXT = 5;
        static final int CARRIED = 6;
        static final int OWN = 7;
        static final int STAND = 8;
        static final int ABOVE = 9;
        static final int HIGH = 10;
        static final int LEVELLED = 11;
        static final int ROW = 12;

        final Run run;
        final Flow flow;
        final Fitter fitter;
        private final int[][] rows;
        int columns;
        int page;
        private int free;
        /** The first PIECE that is left of the SECTION that is poured, and what is CARRIED to it. */
        private int place;
        private int carried;
        int stuck;
        int spansPut;
        final int[] spanPages;
        final int[] spanAboves;

        /** Of columns beyond so many rows nothing is held but their number. */
        Press(Run run, int mostRows) {
            this.run = run;
            flow = new Flow(run);
            fitter = new Fitter(run, flow);
            rows = new int[Math.max(0, mostRows)][ROW];
            spanPages = new int[MOST_BLOCKS];
            spanAboves = new int[MOST_BLOCKS];
            stuck = NONE;
        }

        /** All anew as the RUN is. */
        void lay() {
            flow.lay();
            fitter.forget();
        }

        /** The ENDS alone anew. */
        void mark() {
            flow.markEnds();
            fitter.forget();
        }

        int pourAll() {
            columns = 0;
            page = 0;
            free = run.setting(HEIGHT);
            stuck = NONE;
            spansPut = 0;
            for (int section = 0; section < flow.sections && stuck == NONE; section++) {
                place = at(flow.begins, section);
                carried = 0;
                if (section > 0) {
                    putSpan(section);
                }
                if (stuck == NONE && place < at(flow.finishes, section)) {
                    pourSection(section);
                }
            }
            return answer();
        }

        /** How many PAGES; -2 - the PIECE at which it is STUCK. */
        int answer() {
            if (stuck != NONE) {
                return NOT - stuck;
            }
            return flow.sections == 0 ? 0 : page + 1;
        }

        private void turnPage() {
            if (page >= LAST_PAGE) {
                stuck = place;
            } else {
                page++;
                free = run.setting(HEIGHT);
            }
        }

        private boolean pageIsFree() {
            return free == run.setting(HEIGHT);
        }

        /** The span ahead of a SECTION. */
        private void putSpan(int section) {
            int high = at(flow.spanHeights, section);
            if (high + run.setting(ROOM) > free && !pageIsFree()) {
                turnPage();
            }
            int k = section - 1;
            if (stuck == NONE && k >= 0 && k < MOST_BLOCKS) {
                spanPages[k] = page;
                spanAboves[k] = run.setting(HEIGHT) - free;
                spansPut = section;
                free = Math.max(0, free - high);
            }
        }

        private void pourSection(int section) {
            boolean done = false;
            for (int i = 0; i <= LAST_PAGE + 1 && !done && stuck == NONE; i++) {
                int height = fitter.leastFrom(section, place, carried, free);
                if (height != NOT) {
                    level(section, height);
                    free -= height;
                    done = true;
                } else if (!fill(section) && pageIsFree()) {
                    stuck = place;
                } else {
                    turnPage();
                }
            }
        }

        /** Each column ends as late as it can so that the rest still FITS. */
        private void level(int section, int height) {
            int many = run.setting(COLUMNS);
            fitter.measure(section, many, height);
            for (int i = 0; i < many; i++) {
                int to = fitter.latest(section, place, carried, height, many - 1 - i);
                if (to != NONE) {
                    putColumn(section, i, to, height, true);
                }
            }
        }

        /** Each column ends as late as it CAN END; whether something came to stand. */
        private boolean fill(int section) {
            int before = columns;
            int from = place;
            int over = carried;
            boolean stands = false;
            int many = run.setting(COLUMNS);
            for (int i = 0; i < many; i++) {
                int to = fitter.latest(section, place, carried, free, NONE);
                if (to == NONE) {
                    stands = false;
                    break;
                }
                stands = putColumn(section, i, to, free, false) || stands;
            }
            if (!stands) {
                columns = before;
                place = from;
                carried = over;
            }
            return stands;
        }

        /** A column from the place where all is; whether a PIECE or a note line stands in it. */
        private boolean putColumn(int section, int number, int to, int height, boolean levelled) {
            int own = flow.ownLines(place, to);
            int left = Math.max(0, fitter.leftOver(place, to, carried, height));
            int stand = own + carried - left;
            boolean some = to > place || stand > 0;
            if (columns >= 0 && columns < rows.length) {
                int[] row = rows[columns];
                row[PAGE] = page;
                row[NUMBER] = number;
                row[SECTION] = section;
                row[FROM] = place;
                row[TO] = to;
                row[TEXT] = flow.text(place, to);
                row[CARRIED] = carried;
                row[OWN] = own;
                row[STAND] = stand;
                row[ABOVE] = run.setting(HEIGHT) - free;
                row[HIGH] = height;
                row[LEVELLED] = levelled ? 1 : 0;
            }
            columns++;
            place = to;
            carried = left;
            return some;
        }

        int cell(int i, int what) {
            return i >= 0 && i < rows.length && i < columns ? at(rows[i], what) : 0;
        }

        /** How much of a column its TEXT, RULE and note lines take. */
        int used(int i) {
            boolean notes = cell(i, OWN) + cell(i, CARRIED) > 0;
            int rule = notes ? run.setting(RULE) : 0;
            return cell(i, TEXT) + rule + cell(i, STAND) * run.setting(NOTE);
        }

        /** A SECTION by itself, LEVELLED, as the only columns there are. */
        void levelAlone(int section, int height) {
            columns = 0;
            place = at(flow.begins, section);
            carried = 0;
            level(section, height);
        }

        /** By how much the highest column is above the lowest one. */
        int difference() {
            int highest = used(0);
            int lowest = highest;
            for (int i = 1; i < columns; i++) {
                highest = Math.max(highest, used(i));
                lowest = Math.min(lowest, used(i));
            }
            return highest - lowest;
        }

        int columnOf(int piece) {
            for (int i = 0; i < columns; i++) {
                if (cell(i, FROM) <= piece && piece < cell(i, TO)) {
                    return i;
                }
            }
            return NONE;
        }

        /** Note lines of a PIECE's NOTE that are left over by its column; it is the last one of it then. */
        private int leftOfNote(int piece, int i) {
            boolean last = flow.ownLines(piece + 1, cell(i, TO)) == 0;
            return last ? cell(i, CARRIED) + cell(i, OWN) - cell(i, STAND) : 0;
        }

        int linesByMark(int piece) {
            int i = columnOf(piece);
            return i == NONE ? NOT : at(flow.noteLines, piece) - leftOfNote(piece, i);
        }

        /** What is left over comes first in the columns behind. */
        int columnsOfNote(int piece) {
            int i = columnOf(piece);
            if (i == NONE) {
                return NOT;
            }
            int many = 1;
            int left = leftOfNote(piece, i);
            for (int k = i + 1; k < columns && left > 0; k++) {
                if (cell(k, STAND) > 0) {
                    many++;
                }
                left -= cell(k, STAND);
            }
            return many;
        }

        int columnsOn(int k) {
            int many = 0;
            for (int i = 0; i < columns; i++) {
                many += cell(i, PAGE) == k ? 1 : 0;
            }
            return many;
        }

        int piecesOn(int k) {
            int many = 0;
            for (int i = 0; i < columns; i++) {
                many += cell(i, PAGE) == k ? cell(i, TO) - cell(i, FROM) : 0;
            }
            return many;
        }

        int spansOn(int k) {
            int many = 0;
            for (int i = 0; i < spansPut && i < MOST_BLOCKS; i++) {
                many += spanPages[i] == k ? 1 : 0;
            }
            return many;
        }

        int noteLinesOn(int k) {
            int many = 0;
            for (int i = 0; i < columns; i++) {
                many += cell(i, PAGE) == k ? cell(i, STAND) : 0;
            }
            return many;
        }

        /** A SECTION's columns on a PAGE begin with its number 0. */
        int sectionsOn(int k) {
            int many = 0;
            for (int i = 0; i < columns; i++) {
                many += cell(i, PAGE) == k && cell(i, NUMBER) == 0 ? 1 : 0;
            }
            return many;
        }
    }
}
