import java.util.ArrayList;
import java.util.Arrays;
import java.util.HashMap;
import java.util.List;
import java.util.Map;

/**
 * The document once more, as slowly and as near to its words as can be: every row of ENDS is tried,
 * every height from 0 on, nothing is kept from call to call. RandomRunsTest holds the class against it.
 */
final class Oracle {

    static final int NONE = -1;
    static final String[] KINDS = {"lines", "solid", "head", "table", "span"};
    static final String[] SETTINGS = {"columns", "height", "orphans", "widows", "follow", "note", "rule", "room"};
    static final int[][] RANGES = {{1, 5}, {10, 400}, {1, 9}, {1, 9}, {0, 9}, {1, 3}, {0, 9}, {0, 60}};
    static final int[] FIRST = {2, 60, 2, 2, 2, 1, 1, 0};

    static final class Block {
        int kind;
        int n;
        int h;
        int top;
        boolean tied;
        boolean whole;
        int space;
        Map<Integer, Integer> marks = new HashMap<>();

        Block copy() {
            Block b = new Block();
            b.kind = kind;
            b.n = n;
            b.h = h;
            b.top = top;
            b.tied = tied;
            b.whole = whole;
            b.space = space;
            b.marks = new HashMap<>(marks);
            return b;
        }
    }

    static final class State {
        List<Block> blocks = new ArrayList<>();
        int[] settings = FIRST.clone();

        State copy() {
            State s = new State();
            for (Block b : blocks) {
                s.blocks.add(b.copy());
            }
            s.settings = settings.clone();
            return s;
        }

        int pieces() {
            int sum = 0;
            for (Block b : blocks) {
                sum += b.n;
            }
            return sum;
        }
    }

    static final class Fault extends Exception {
        private static final long serialVersionUID = 1L;
        final int value;

        Fault(int place, int code) {
            value = 8 * place + code;
        }
    }

    // ---------- the text ----------

    static final class Parser {
        final byte[] t;
        int i = 0;
        final State s = new State();
        final boolean[] told = new boolean[8];

        Parser(byte[] t) {
            this.t = t;
        }

        void blanks() {
            while (i < t.length && t[i] == 32) {
                i++;
            }
        }

        boolean letter() {
            return i < t.length && t[i] >= 97 && t[i] <= 122;
        }

        boolean digit() {
            return i < t.length && t[i] >= 48 && t[i] <= 57;
        }

        String word() throws Fault {
            blanks();
            if (!letter()) {
                throw new Fault(i, 1);
            }
            StringBuilder b = new StringBuilder();
            while (letter()) {
                b.append((char) t[i++]);
            }
            return b.toString();
        }

        int numberAt;

        int number(int least, int most) throws Fault {
            blanks();
            numberAt = i;
            if (!digit()) {
                throw new Fault(i, 1);
            }
            StringBuilder b = new StringBuilder();
            while (digit()) {
                b.append((char) t[i++]);
            }
            java.math.BigInteger v = new java.math.BigInteger(b.toString());
            if (v.compareTo(java.math.BigInteger.valueOf(least)) < 0 || v.compareTo(java.math.BigInteger.valueOf(most)) > 0) {
                throw new Fault(numberAt, 2);
            }
            return v.intValue();
        }

        State parse() throws Fault {
            blanks();
            if (i == t.length) {
                return s;
            }
            while (true) {
                part();
                blanks();
                if (i == t.length) {
                    return s;
                }
                if (t[i] != ';') {
                    throw new Fault(i, 1);
                }
                i++;
            }
        }

        void part() throws Fault {
            blanks();
            int start = i;
            String w = word();
            int set = Arrays.asList(SETTINGS).indexOf(w);
            int kind = Arrays.asList(KINDS).indexOf(w);
            if (set >= 0) {
                if (told[set]) {
                    throw new Fault(start, 3);
                }
                told[set] = true;
                s.settings[set] = number(RANGES[set][0], RANGES[set][1]);
                return;
            }
            if (kind < 0) {
                throw new Fault(start, 1);
            }
            if (s.blocks.size() == 16) {
                throw new Fault(start, 3);
            }
            Block b = new Block();
            b.kind = kind;
            int had = s.pieces();
            if (kind == 0 || kind == 3) {
                if (kind == 3) {
                    b.top = number(0, 9);
                }
                b.n = number(1, 30);
                if (had + b.n > 90) {
                    throw new Fault(numberAt, 3);
                }
                b.h = number(1, 9);
            } else if (kind == 4) {
                b.h = number(1, 60);
            } else {
                if (had == 90) {
                    throw new Fault(start, 3);
                }
                b.n = 1;
                b.h = number(1, kind == 1 ? 200 : 30);
            }
            s.blocks.add(b);
            if (kind != 4) {
                words(b);
            }
        }

        void words(Block b) throws Fault {
            boolean tied = false;
            boolean whole = false;
            boolean space = false;
            while (true) {
                blanks();
                if (!letter()) {
                    return;
                }
                int start = i;
                String w = word();
                if (w.equals("tied")) {
                    if (tied) {
                        throw new Fault(start, 3);
                    }
                    tied = true;
                    b.tied = true;
                } else if (w.equals("space")) {
                    if (space) {
                        throw new Fault(start, 3);
                    }
                    space = true;
                    b.space = number(0, 30);
                } else if (w.equals("whole") && b.kind == 0) {
                    if (whole) {
                        throw new Fault(start, 3);
                    }
                    whole = true;
                    b.whole = true;
                } else if (w.equals("mark") && b.kind == 0) {
                    if (b.marks.size() == 4) {
                        throw new Fault(start, 3);
                    }
                    int line = number(1, b.n);
                    if (b.marks.containsKey(line)) {
                        throw new Fault(numberAt, 2);
                    }
                    b.marks.put(line, number(1, 20));
                } else {
                    throw new Fault(start, 1);
                }
            }
        }
    }

    // ---------- pieces, sections, ends ----------

    static final class Piece {
        int block;
        int number;
        int height;
        int space;
        int note;
        int section;
        Block of;
    }

    static final class Section {
        int first;
        int last;
        int span;
        boolean[] end;
        int ends;
    }

    static final class Column {
        int page;
        int number;
        int section;
        int from;
        int to;
        int text;
        int carried;
        int own;
        int stand;
        int above;
        int height;
        int levelled;
        int left;
    }

    static final class Poured {
        int pages;
        int stuck = -1;
        int page;
        List<Column> columns = new ArrayList<>();
        List<int[]> spans = new ArrayList<>();

        int answer() {
            return stuck >= 0 ? -2 - stuck : pages;
        }
    }

    static final class View {
        final State s;
        final List<Piece> pieces = new ArrayList<>();
        final List<Section> sections = new ArrayList<>();
        final List<Integer> notes = new ArrayList<>();

        View(State s) {
            this.s = s;
            if (s.blocks.isEmpty()) {
                return;
            }
            sections.add(new Section());
            for (int b = 0; b < s.blocks.size(); b++) {
                Block k = s.blocks.get(b);
                if (k.kind == 4) {
                    Section n = new Section();
                    n.first = pieces.size();
                    n.last = n.first;
                    n.span = k.h;
                    sections.add(n);
                    continue;
                }
                for (int i = 0; i < k.n; i++) {
                    Piece p = new Piece();
                    p.block = b;
                    p.number = i;
                    p.of = k;
                    p.height = k.h + (k.kind == 3 && i == 0 ? k.top : 0);
                    p.space = i == 0 ? k.space : 0;
                    p.note = k.marks.getOrDefault(i + 1, 0);
                    p.section = sections.size() - 1;
                    if (p.note > 0) {
                        notes.add(pieces.size());
                    }
                    pieces.add(p);
                }
                sections.get(sections.size() - 1).last = pieces.size();
            }
            for (Section x : sections) {
                x.end = new boolean[pieces.size() + 1];
                for (int at = x.first; at <= x.last; at++) {
                    x.end[at] = at == x.first || at == x.last || endBehind(pieces.get(at - 1));
                    if (x.end[at]) {
                        x.ends++;
                    }
                }
            }
        }

        boolean endBehind(Piece p) {
            Block k = p.of;
            int i = p.number + 1;
            if (i == k.n) {
                return k.kind != 2 && !k.tied;
            }
            if (k.kind == 3) {
                return true;
            }
            if (k.whole) {
                return false;
            }
            boolean afterHead = p.block > 0 && s.blocks.get(p.block - 1).kind == 2;
            if (i < s.settings[2] || afterHead && i < s.settings[4]) {
                return false;
            }
            return k.n - i >= s.settings[3];
        }

        /** The column from..to of a height; null if it can not end so. */
        Column column(int from, int to, int carried, int height) {
            Column c = new Column();
            c.from = from;
            c.to = to;
            c.carried = carried;
            c.height = height;
            int lastNote = 0;
            for (int p = from; p < to; p++) {
                Piece x = pieces.get(p);
                c.text += x.height;
                if (p > from) {
                    c.text += x.space;
                }
                if (p == from && x.of.kind == 3 && x.number > 0) {
                    c.text += x.of.top;
                }
                c.own += x.note;
                if (x.note > 0) {
                    lastNote = x.note;
                }
            }
            if (c.own == 0 && carried == 0) {
                return c.text <= height ? c : null;
            }
            int room = height - c.text - s.settings[6];
            if (room < 0) {
                return null;
            }
            int high = s.settings[5];
            int must = c.own > 0 ? carried + c.own - lastNote + 1 : 1;
            if (must * high > room) {
                return null;
            }
            int all = carried + c.own;
            while (c.stand < all && (c.stand + 1) * high <= room) {
                c.stand++;
            }
            c.left = all - c.stand;
            return c;
        }

        int used(Column c) {
            return c.text + (c.own + c.carried > 0 ? s.settings[6] : 0) + c.stand * s.settings[5];
        }

        boolean fits(Section x, int from, int carried, int k, int height, Map<Integer, Boolean> memo) {
            if (k == 0) {
                return from == x.last && carried == 0;
            }
            int key = (from * 100 + carried) * 10 + k;
            Boolean known = memo.get(key);
            if (known != null) {
                return known;
            }
            boolean any = false;
            for (int to = from; to <= x.last && !any; to++) {
                if (x.end[to]) {
                    Column c = column(from, to, carried, height);
                    any = c != null && fits(x, to, c.left, k - 1, height, memo);
                    if (c == null && to > from && text(from, to) > height) {
                        break;
                    }
                }
            }
            memo.put(key, any);
            return any;
        }

        int text(int from, int to) {
            int sum = 0;
            for (int p = from; p < to; p++) {
                sum += pieces.get(p).height;
            }
            return sum;
        }

        boolean fits(Section x, int from, int carried, int k, int height) {
            return fits(x, from, carried, k, height, new HashMap<>());
        }

        int least(Section x, int from, int carried, int k, int most) {
            for (int h = 0; h <= most; h++) {
                if (fits(x, from, carried, k, h)) {
                    return h;
                }
            }
            return -2;
        }

        int least(int section) {
            Section x = sections.get(section);
            return least(x, x.first, 0, s.settings[0], 2000);
        }

        long ways(Section x, int from, int carried, int k, int height, Map<Integer, Long> memo) {
            if (k == 0) {
                return from == x.last && carried == 0 ? 1 : 0;
            }
            int key = (from * 100 + carried) * 10 + k;
            Long known = memo.get(key);
            if (known != null) {
                return known;
            }
            long sum = 0;
            for (int to = from; to <= x.last; to++) {
                if (x.end[to]) {
                    Column c = column(from, to, carried, height);
                    if (c != null) {
                        sum += ways(x, to, c.left, k - 1, height, memo);
                    }
                }
            }
            memo.put(key, sum);
            return sum;
        }

        int reach(Section x, int k, int height) {
            java.util.TreeSet<Integer> now = new java.util.TreeSet<>();
            now.add(x.first * 100);
            for (int i = 0; i < k; i++) {
                java.util.TreeSet<Integer> next = new java.util.TreeSet<>();
                for (int state : now) {
                    for (int to = state / 100; to <= x.last; to++) {
                        Column c = x.end[to] ? column(state / 100, to, state % 100, height) : null;
                        if (c != null) {
                            next.add(to * 100 + c.left);
                        }
                    }
                }
                now = next;
            }
            return now.isEmpty() ? -2 : now.last() / 100;
        }

        /** The columns by which it is levelled at a height. */
        List<Column> level(Section x, int from, int carried, int height) {
            List<Column> all = new ArrayList<>();
            int k = s.settings[0];
            for (int i = 0; i < k; i++) {
                for (int to = x.last; to >= from; to--) {
                    if (!x.end[to]) {
                        continue;
                    }
                    Column c = column(from, to, carried, height);
                    if (c != null && fits(x, to, c.left, k - 1 - i, height)) {
                        all.add(c);
                        from = to;
                        carried = c.left;
                        break;
                    }
                }
            }
            if (all.size() != k) {
                throw new IllegalStateException("not levelled");
            }
            return all;
        }

        Poured pour() {
            Poured o = new Poured();
            if (s.blocks.isEmpty()) {
                return o;
            }
            int height = s.settings[1];
            int page = 0;
            int free = height;
            for (int n = 0; n < sections.size(); n++) {
                Section x = sections.get(n);
                if (n > 0) {
                    if (!(x.span + s.settings[7] <= free || free == height)) {
                        if (page == 39) {
                            o.stuck = x.first;
                            o.page = page;
                            return o;
                        }
                        page++;
                        free = height;
                    }
                    o.spans.add(new int[] {page, height - free});
                    free = Math.max(0, free - x.span);
                }
                if (x.first == x.last) {
                    continue;
                }
                int from = x.first;
                int carried = 0;
                while (true) {
                    if (fits(x, from, carried, s.settings[0], free)) {
                        int h = least(x, from, carried, s.settings[0], free);
                        List<Column> level = level(x, from, carried, h);
                        put(o, level, page, n, height - free, 1);
                        free -= h;
                        break;
                    }
                    List<Column> filled = new ArrayList<>();
                    int at = from;
                    int over = carried;
                    boolean some = false;
                    boolean can = true;
                    for (int i = 0; i < s.settings[0] && can; i++) {
                        Column best = null;
                        for (int to = at; to <= x.last; to++) {
                            Column c = x.end[to] ? column(at, to, over, free) : null;
                            if (c != null) {
                                best = c;
                            }
                        }
                        if (best == null) {
                            can = false;
                        } else {
                            filled.add(best);
                            some |= best.to > best.from || best.stand > 0;
                            at = best.to;
                            over = best.left;
                        }
                    }
                    if (can && some) {
                        put(o, filled, page, n, height - free, 0);
                        from = at;
                        carried = over;
                    } else if (free == height) {
                        o.stuck = from;
                        o.page = page;
                        return o;
                    }
                    if (page == 39) {
                        o.stuck = from;
                        o.page = page;
                        return o;
                    }
                    page++;
                    free = height;
                }
            }
            o.page = page;
            o.pages = page + 1;
            return o;
        }

        void put(Poured o, List<Column> cs, int page, int section, int above, int levelled) {
            int number = 0;
            for (Column c : cs) {
                c.page = page;
                c.section = section;
                c.number = number++;
                c.above = above;
                c.levelled = levelled;
                o.columns.add(c);
            }
        }
    }

    // ---------- the face ----------

    State s = new State();
    byte[] tape = new byte[0];
    final List<State> past = new ArrayList<>();
    final State[] shelves = new State[2];

    View view() {
        return new View(s);
    }

    int feed(int... numbers) {
        if (tape.length + 20 > 400) {
            return NONE;
        }
        int n = tape.length;
        tape = Arrays.copyOf(tape, n + 20);
        for (int x : numbers) {
            tape[n++] = (byte) (x >> 24);
            tape[n++] = (byte) (x >> 16);
            tape[n++] = (byte) (x >> 8);
            tape[n++] = (byte) x;
        }
        return tape.length;
    }

    int end(int n) {
        if (n < 0 || n > tape.length) {
            return NONE;
        }
        tape = Arrays.copyOf(tape, n);
        return n;
    }

    int tell() {
        byte[] t = tape;
        tape = new byte[0];
        try {
            s = new Parser(t).parse();
            past.clear();
            return s.pieces();
        } catch (Fault f) {
            return -2 - f.value;
        }
    }

    void act() {
        past.add(s.copy());
        if (past.size() > 10) {
            past.remove(0);
        }
    }

    static boolean takes(int what, int value) {
        return what >= 0 && what < 8 && value >= RANGES[what][0] && value <= RANGES[what][1];
    }

    boolean has(int b) {
        return b >= 0 && b < s.blocks.size();
    }

    boolean flows(int b) {
        return has(b) && s.blocks.get(b).kind != 4;
    }

    int set(int what, int value) {
        if (!takes(what, value)) {
            return NONE;
        }
        int was = s.settings[what];
        if (was == value) {
            return -2;
        }
        act();
        s.settings[what] = value;
        return was;
    }

    int tie(int b, boolean tied) {
        if (!flows(b)) {
            return NONE;
        }
        if (s.blocks.get(b).tied == tied) {
            return -2;
        }
        act();
        s.blocks.get(b).tied = tied;
        return 1;
    }

    int space(int b, int space) {
        if (!flows(b) || space < 0 || space > 30) {
            return NONE;
        }
        int was = s.blocks.get(b).space;
        if (was == space) {
            return -2;
        }
        act();
        s.blocks.get(b).space = space;
        return was;
    }

    int swap(int b, int o) {
        if (!has(b) || !has(o) || b == o) {
            return NONE;
        }
        act();
        java.util.Collections.swap(s.blocks, b, o);
        return 1;
    }

    int again(int b) {
        if (!has(b)) {
            return NONE;
        }
        if (s.blocks.size() == 16 || s.pieces() + s.blocks.get(b).n > 90) {
            return -2;
        }
        act();
        s.blocks.add(s.blocks.get(b).copy());
        return s.blocks.size();
    }

    int drop(int b) {
        if (!has(b)) {
            return NONE;
        }
        act();
        s.blocks.remove(b);
        return s.blocks.size();
    }

    int undo() {
        if (past.isEmpty()) {
            return NONE;
        }
        s = past.remove(past.size() - 1);
        return past.size();
    }

    int keep(int shelf) {
        if (shelf < 0 || shelf > 1) {
            return NONE;
        }
        shelves[shelf] = s.copy();
        return s.blocks.size();
    }

    int back(int shelf) {
        if (shelf < 0 || shelf > 1) {
            return NONE;
        }
        if (shelves[shelf] == null) {
            return -2;
        }
        s = shelves[shelf].copy();
        past.clear();
        return s.blocks.size();
    }

    int block(int b, int what) {
        if (!has(b)) {
            return NONE;
        }
        Block k = s.blocks.get(b);
        int first = 0;
        for (int i = 0; i < b; i++) {
            first += s.blocks.get(i).n;
        }
        int[] all = {k.kind, k.n, first, k.h, k.top, k.tied ? 1 : 0, k.whole ? 1 : 0, k.space, k.marks.size()};
        return what < 0 || what >= all.length ? NONE : all[what];
    }

    int piece(int p, int what) {
        View v = view();
        if (p < 0 || p >= v.pieces.size()) {
            return NONE;
        }
        Piece x = v.pieces.get(p);
        int end = v.sections.get(x.section).end[p + 1] ? 1 : 0;
        int[] all = {x.block, x.number, x.height, x.space, x.note, end, x.section};
        return what < 0 || what >= all.length ? NONE : all[what];
    }

    int section(int n, int what) {
        View v = view();
        if (n < 0 || n >= v.sections.size()) {
            return NONE;
        }
        Section x = v.sections.get(n);
        int notes = 0;
        for (int p = x.first; p < x.last; p++) {
            notes += v.pieces.get(p).note;
        }
        int[] all = {x.first, x.last, x.span, x.ends, notes};
        return what < 0 || what >= all.length ? NONE : all[what];
    }

    int pour() {
        return view().pour().answer();
    }

    int column(int i, int what) {
        Poured o = view().pour();
        if (i == NONE && what == 0) {
            return o.columns.size();
        }
        if (i < 0 || i >= o.columns.size()) {
            return NONE;
        }
        Column c = o.columns.get(i);
        int[] all = {c.page, c.number, c.section, c.from, c.to, c.text, c.carried, c.own, c.stand, c.above, c.height, c.levelled};
        return what < 0 || what >= all.length ? NONE : all[what];
    }

    int where(int p, int what) {
        View v = view();
        if (p < 0 || p >= v.pieces.size() || what < 0 || what > 2) {
            return NONE;
        }
        Poured o = v.pour();
        for (int i = 0; i < o.columns.size(); i++) {
            Column c = o.columns.get(i);
            if (c.from <= p && p < c.to) {
                if (what < 2) {
                    return what == 0 ? c.page : i;
                }
                int above = 0;
                for (int q = c.from; q <= p; q++) {
                    Piece x = v.pieces.get(q);
                    if (q > c.from) {
                        above += x.space;
                    } else if (x.of.kind == 3 && x.number > 0) {
                        above += x.of.top;
                    }
                    if (q < p) {
                        above += x.height;
                    }
                }
                return above;
            }
        }
        return -2;
    }

    int note(int k, int what) {
        View v = view();
        if (k == NONE && what == 0) {
            return v.notes.size();
        }
        if (k < 0 || k >= v.notes.size() || what < 0 || what > 3) {
            return NONE;
        }
        int p = v.notes.get(k);
        if (what < 2) {
            return what == 0 ? p : v.pieces.get(p).note;
        }
        // every note line by itself goes along the columns in its order
        List<Integer> queue = new ArrayList<>();
        int columns = 0;
        int byMark = -2;
        for (Column c : v.pour().columns) {
            for (int q = c.from; q < c.to; q++) {
                for (int i = 0; i < v.pieces.get(q).note; i++) {
                    queue.add(q);
                }
            }
            int here = 0;
            for (int i = 0; i < c.stand; i++) {
                if (queue.remove(0) == p) {
                    here++;
                }
            }
            if (here > 0) {
                columns++;
            }
            if (c.from <= p && p < c.to) {
                byMark = here;
            }
        }
        if (byMark == -2) {
            return -2;
        }
        return what == 2 ? byMark : columns;
    }

    int span(int k, int what) {
        View v = view();
        if (k < 0 || k >= v.sections.size() - 1 || what < 0 || what > 1) {
            return NONE;
        }
        Poured o = v.pour();
        return k < o.spans.size() ? o.spans.get(k)[what] : -2;
    }

    boolean asks(View v, int section, int height) {
        return section >= 0 && section < v.sections.size() && height >= 0 && height <= 2000;
    }

    int fits(int section, int height) {
        View v = view();
        if (!asks(v, section, height)) {
            return NONE;
        }
        Section x = v.sections.get(section);
        return v.fits(x, x.first, 0, s.settings[0], height) ? 1 : 0;
    }

    int least(int section) {
        View v = view();
        return asks(v, section, 0) ? v.least(section) : NONE;
    }

    int reach(int section, int k, int height) {
        View v = view();
        if (!asks(v, section, height) || k < 1 || k > 5) {
            return NONE;
        }
        return v.reach(v.sections.get(section), k, height);
    }

    int trial(int what, int value) {
        if (!takes(what, value)) {
            return NONE;
        }
        State t = s.copy();
        t.settings[what] = value;
        return new View(t).pour().answer();
    }

    int costs(int section, int law) {
        View v = view();
        if (!asks(v, section, 0) || law < 0 || law > 4) {
            return NONE;
        }
        int now = v.least(section);
        if (now == -2) {
            return -2;
        }
        State t = s.copy();
        for (Block b : t.blocks) {
            b.tied &= law != 3;
            b.whole &= law != 4;
        }
        if (law < 2) {
            t.settings[2 + law] = 1;
        } else if (law == 2) {
            t.settings[4] = 0;
        }
        return now - new View(t).least(section);
    }

    int tall(int n) {
        if (n < 0 || n > 40) {
            return NONE;
        }
        State t = s.copy();
        for (int h = 10; h <= 400; h++) {
            t.settings[1] = h;
            int pages = new View(t).pour().answer();
            if (pages >= 0 && pages <= n) {
                return h;
            }
        }
        return -2;
    }

    int loose(int what) {
        if (what < 0 || what > 2) {
            return NONE;
        }
        View v = view();
        Poured o = v.pour();
        if (o.stuck >= 0) {
            return o.answer();
        }
        int sum = 0;
        int most = 0;
        int which = -2;
        for (int i = 0; i < o.columns.size(); i++) {
            Column c = o.columns.get(i);
            int l = c.height - v.used(c);
            sum += l;
            if (i == 0 || l > most) {
                most = l;
                which = i;
            }
        }
        return what == 0 ? sum : what == 1 ? most : which;
    }

    int page(int k, int what) {
        View v = view();
        Poured o = v.pour();
        if (s.blocks.isEmpty() || k < 0 || k > o.page || what < 0 || what > 4) {
            return NONE;
        }
        int[] all = new int[5];
        java.util.TreeSet<Integer> in = new java.util.TreeSet<>();
        for (Column c : o.columns) {
            if (c.page == k) {
                all[0]++;
                all[1] += c.to - c.from;
                all[3] += c.stand;
                in.add(c.section);
            }
        }
        for (int[] p : o.spans) {
            if (p[0] == k) {
                all[2]++;
            }
        }
        all[4] = in.size();
        return all[what];
    }

    int ways(int section, int height) {
        View v = view();
        if (!asks(v, section, height)) {
            return NONE;
        }
        Section x = v.sections.get(section);
        return (int) v.ways(x, x.first, 0, s.settings[0], height, new HashMap<>());
    }

    int untie(int section, int height) {
        View v = view();
        if (!asks(v, section, height)) {
            return NONE;
        }
        List<Integer> ties = new ArrayList<>();
        int part = 0;
        for (int b = 0; b < s.blocks.size(); b++) {
            if (s.blocks.get(b).kind == 4) {
                part++;
            } else if (part == section && s.blocks.get(b).tied && ties.size() < 8) {
                ties.add(b);
            }
        }
        int best = -2;
        for (int m = 0; m < 1 << ties.size(); m++) {
            State t = s.copy();
            int bits = 0;
            for (int i = 0; i < ties.size(); i++) {
                if ((m >> i & 1) == 1) {
                    t.blocks.get(ties.get(i)).tied = false;
                    bits += 1 << ties.get(i);
                }
            }
            boolean better = best == -2 || Integer.bitCount(bits) < Integer.bitCount(best)
                || Integer.bitCount(bits) == Integer.bitCount(best) && bits < best;
            if (better) {
                View w = new View(t);
                Section x = w.sections.get(section);
                if (w.fits(x, x.first, 0, s.settings[0], height)) {
                    best = bits;
                }
            }
        }
        return best;
    }

    int narrow(int section, int height) {
        View v = view();
        if (!asks(v, section, height)) {
            return NONE;
        }
        Section x = v.sections.get(section);
        for (int k = 1; k <= 5; k++) {
            if (v.fits(x, x.first, 0, k, height)) {
                return k;
            }
        }
        return -2;
    }

    int even(int section) {
        View v = view();
        if (!asks(v, section, 0)) {
            return NONE;
        }
        int h = v.least(section);
        if (h == -2) {
            return -2;
        }
        Section x = v.sections.get(section);
        int most = Integer.MIN_VALUE;
        int least = Integer.MAX_VALUE;
        for (Column c : v.level(x, x.first, 0, h)) {
            most = Math.max(most, v.used(c));
            least = Math.min(least, v.used(c));
        }
        return most - least;
    }

    int order(int what) {
        if (what < 0 || what > 1) {
            return NONE;
        }
        int best = -2;
        int first = -2;
        for (int i = 0; i + 1 < s.blocks.size(); i++) {
            State t = s.copy();
            java.util.Collections.swap(t.blocks, i, i + 1);
            int pages = new View(t).pour().answer();
            if (pages >= 0 && (best == -2 || pages < best)) {
                best = pages;
                first = i;
            }
        }
        return what == 0 ? first : best;
    }

    int count(int what) {
        View v = view();
        if (what >= 10 && what <= 17) {
            return s.settings[what - 10];
        }
        int shelf = (shelves[0] == null ? 0 : 1) + (shelves[1] == null ? 0 : 2);
        int[] all = {s.blocks.size(), v.pieces.size(), v.sections.size(), v.notes.size(), past.size(), tape.length, shelf,
            Math.max(0, v.sections.size() - 1)};
        return what < 0 || what >= all.length ? NONE : all[what];
    }
}
