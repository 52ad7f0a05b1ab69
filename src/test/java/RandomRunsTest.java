import java.nio.charset.StandardCharsets;
import java.util.Random;

/**
 * Runs of random calls, each answer held against the Oracle's. The seeds are fixed, so every run of
 * the test makes the same calls; two numbers as arguments are the first seed and how many.
 */
public final class RandomRunsTest {

    private static int wrong = 0;
    private static int calls = 0;

    public static void main(String[] args) {
        int first = args.length > 0 ? Integer.parseInt(args[0]) : 1;
        int many = args.length > 1 ? Integer.parseInt(args[1]) : 400;
        for (int seed = first; seed < first + many && wrong < 10; seed++) {
            new Game(seed).play();
        }
        System.out.println(calls + " calls held against the oracle, " + wrong + " wrong");
        if (wrong != 0) {
            System.exit(1);
        }
    }

    private static final class Game {

        private final Random random;
        private final int seed;
        private final ColumnsLevelled x = new ColumnsLevelled();
        private final Oracle o = new Oracle();
        private final StringBuilder log = new StringBuilder();
        private String text = "";

        Game(int seed) {
            this.seed = seed;
            random = new Random(seed);
        }

        void play() {
            int rounds = 1 + random.nextInt(3);
            for (int i = 0; i < rounds; i++) {
                tellText();
                queries(10 + random.nextInt(50));
                sweep();
            }
        }

        private int upTo(int n) {
            return random.nextInt(n);
        }

        private boolean oneIn(int n) {
            return random.nextInt(n) == 0;
        }

        // ---- texts ----

        private void tellText() {
            text = makeText();
            byte[] bytes = text.getBytes(StandardCharsets.ISO_8859_1);
            int n = Math.min(bytes.length, 400);
            int fed = 0;
            while (fed < n) {
                int[] v = Texts.portion(bytes, fed);
                due("feed", x.feed(v[0], v[1], v[2], v[3], v[4]), o.feed(v));
                fed += 20;
            }
            due("end " + n, x.end(n), o.end(n));
            due("tell " + text, x.tell(), o.tell());
        }

        private String makeText() {
            if (oneIn(12)) {
                return tokens();
            }
            StringBuilder b = new StringBuilder();
            int profile = upTo(6);
            int blocks = oneIn(8) ? 14 + upTo(4) : upTo(11);
            boolean first = true;
            for (int what = 0; what < 8; what++) {
                if (oneIn(profile == 5 ? 4 : 2)) {
                    first = join(b, first, setting(what, profile));
                }
            }
            for (int i = 0; i < blocks; i++) {
                first = join(b, first, block(profile));
            }
            String s = b.toString();
            return oneIn(5) ? spoil(s) : s;
        }

        private boolean join(StringBuilder b, boolean first, String part) {
            if (b.length() + part.length() < 396 || oneIn(40)) {
                if (!first) {
                    b.append(oneIn(3) ? " ; " : ";");
                }
                b.append(part);
                return false;
            }
            return first;
        }

        private String setting(int what, int profile) {
            int[] range = Oracle.RANGES[what];
            int value = range[0] + upTo(range[1] - range[0] + 1);
            if (what == 1) {
                value = profile == 5 ? 10 + upTo(8) : 10 + upTo(oneIn(3) ? 100 : 30);
            }
            if ((what == 2 || what == 3) && oneIn(2)) {
                value = 1 + upTo(3);
            }
            if (what == 6 && oneIn(2)) {
                value = upTo(3);
            }
            if (what == 7 && oneIn(2)) {
                value = upTo(10);
            }
            if (oneIn(60)) {
                value = range[1] + 1 - upTo(2) * (range[1] + 1 - range[0] + 1);
            }
            return Oracle.SETTINGS[what] + " " + Math.max(0, value);
        }

        private String block(int profile) {
            int kind = upTo(10);
            String s;
            if (kind < 4 || profile == 1) {
                int n = 1 + upTo(oneIn(4) ? 30 : 9);
                s = "lines " + n + " " + (1 + upTo(oneIn(3) ? 9 : 3)) + words(true);
                int marks = profile == 1 || oneIn(2) ? upTo(4) : 0;
                for (int i = 0; i < marks; i++) {
                    s += " mark " + (1 + upTo(n)) + " " + (1 + upTo(oneIn(3) ? 20 : 5));
                }
                return s;
            }
            if (kind < 5) {
                return "solid " + (1 + upTo(oneIn(10) ? 200 : 14)) + words(false);
            }
            if (kind < 7) {
                return "head " + (1 + upTo(oneIn(6) ? 30 : 5)) + words(false);
            }
            if (kind < 9) {
                return "table " + upTo(oneIn(4) ? 10 : 4) + " " + (1 + upTo(oneIn(5) ? 30 : 7)) + " "
                    + (1 + upTo(4)) + words(false);
            }
            return "span " + (1 + upTo(oneIn(4) ? 60 : 8));
        }

        private String words(boolean lines) {
            String s = "";
            if (oneIn(4)) {
                s += " tied";
            }
            if (lines && oneIn(6)) {
                s += " whole";
            }
            if (oneIn(3)) {
                s += " space " + upTo(oneIn(5) ? 31 : 4);
            }
            return s;
        }

        private String spoil(String s) {
            StringBuilder b = new StringBuilder(s);
            for (int i = 0; i <= upTo(2) && b.length() > 0; i++) {
                int at = upTo(b.length());
                String bytes = " ;09a mz17tA\u00e9\u0000lines3";
                char c = bytes.charAt(upTo(bytes.length()));
                switch (upTo(4)) {
                    case 0: b.setCharAt(at, c); break;
                    case 1: b.insert(at, c); break;
                    case 2: b.deleteCharAt(at); break;
                    default: b.setLength(at); break;
                }
            }
            return b.toString();
        }

        private String tokens() {
            String[] all = {"lines", "solid", "head", "table", "span", "tied", "whole", "space", "mark", "columns",
                "height", "orphans", "widows", "follow", "note", "rule", "room", ";", ";", ";", "1", "2", "30", "5", "0",
                "300", "lines 30 1", "mark 1 1", "solid 3", "span 2;", "tied", "07", "line", "99999999999999999999"};
            StringBuilder b = new StringBuilder();
            int n = 1 + upTo(14);
            for (int i = 0; i < n && b.length() < 360; i++) {
                b.append(all[upTo(all.length)]);
                if (!oneIn(6)) {
                    b.append(' ');
                }
            }
            return b.toString();
        }

        // ---- calls ----

        private void due(String call, int got, int want) {
            calls++;
            log.append(call).append(" -> ").append(want).append('\n');
            if (got != want) {
                wrong++;
                System.out.println("seed " + seed + ": " + call + " answered " + got + ", due is " + want);
                if (wrong == 1) {
                    System.out.println(log);
                }
            }
        }

        private int someBlock() {
            int n = o.s.blocks.size();
            return oneIn(15) ? upTo(20) - 2 : n == 0 ? 0 : upTo(n);
        }

        private int someSection() {
            int n = o.view().sections.size();
            return oneIn(15) ? upTo(20) - 2 : n == 0 ? 0 : upTo(n);
        }

        private int someHeight() {
            if (oneIn(20)) {
                return new int[] {-1, 0, 2000, 2001}[upTo(4)];
            }
            return upTo(oneIn(4) ? 400 : 40);
        }

        private int nearHeight(int section) {
            int least = o.least(section);
            return least < 0 || oneIn(3) ? someHeight() : least + upTo(5) - 2;
        }

        private void queries(int many) {
            for (int i = 0; i < many; i++) {
                if (oneIn(4)) {
                    act();
                } else {
                    ask();
                }
            }
        }

        private void act() {
            int b = someBlock();
            int c = someBlock();
            switch (upTo(11)) {
                case 0: {
                    int what = upTo(9) - (oneIn(9) ? 1 : 0);
                    int[] range = Oracle.RANGES[Math.min(7, Math.max(0, what))];
                    int value = oneIn(12) ? range[0] - 1 : oneIn(12) ? range[1] + 1 : range[0] + upTo(range[1] - range[0] + 1);
                    value = what == 1 && value > 100 ? 10 + upTo(60) : value;
                    due("set " + what + " " + value, x.set(what, value), o.set(what, value));
                    break;
                }
                case 1: {
                    boolean t = oneIn(2);
                    due("tie " + b + " " + t, x.tie(b, t), o.tie(b, t));
                    break;
                }
                case 2: {
                    int s = oneIn(8) ? upTo(34) - 1 : upTo(5);
                    due("space " + b + " " + s, x.space(b, s), o.space(b, s));
                    break;
                }
                case 3: due("swap " + b + " " + c, x.swap(b, c), o.swap(b, c)); break;
                case 4: due("again " + b, x.again(b), o.again(b)); break;
                case 5: due("drop " + b, x.drop(b), o.drop(b)); break;
                case 6:
                case 7:
                    for (int i = upTo(4); i >= 0; i--) {
                        due("undo", x.undo(), o.undo());
                    }
                    break;
                case 8: {
                    int s = upTo(oneIn(5) ? 4 : 2) - (oneIn(9) ? 1 : 0);
                    due("keep " + s, x.keep(s), o.keep(s));
                    break;
                }
                case 9: {
                    int s = upTo(oneIn(5) ? 4 : 2) - (oneIn(9) ? 1 : 0);
                    if (oneIn(2)) {
                        due("back " + s, x.back(s), o.back(s));
                    }
                    break;
                }
                default: {
                    int n = upTo(30) - 2;
                    due("feed", x.feed(n, n, 7, 7, 7), o.feed(n, n, 7, 7, 7));
                    due("end " + n, x.end(n), o.end(n));
                    if (oneIn(6)) {
                        due("tell", x.tell(), o.tell());
                    }
                    break;
                }
            }
        }

        private void ask() {
            int s = someSection();
            switch (upTo(16)) {
                case 0: due("pour", x.pour(), o.pour()); break;
                case 1: {
                    int h = nearHeight(s);
                    due("fits " + s + " " + h, x.fits(s, h), o.fits(s, h));
                    break;
                }
                case 2: due("least " + s, x.least(s), o.least(s)); break;
                case 3: {
                    int h = nearHeight(s);
                    int k = oneIn(12) ? upTo(8) - 1 : 1 + upTo(5);
                    due("reach " + s + " " + k + " " + h, x.reach(s, k, h), o.reach(s, k, h));
                    break;
                }
                case 4:
                case 5: {
                    int what = oneIn(15) ? upTo(12) - 2 : upTo(8);
                    int[] range = Oracle.RANGES[Math.min(7, Math.max(0, what))];
                    int value = oneIn(15) ? range[1] + 1 : range[0] + upTo(range[1] - range[0] + 1);
                    due("trial " + what + " " + value, x.trial(what, value), o.trial(what, value));
                    break;
                }
                case 6: {
                    int law = oneIn(12) ? upTo(8) - 1 : upTo(5);
                    due("costs " + s + " " + law, x.costs(s, law), o.costs(s, law));
                    break;
                }
                case 7:
                    if (oneIn(4)) {
                        int n = oneIn(6) ? upTo(44) - 1 : upTo(5);
                        due("tall " + n, x.tall(n), o.tall(n));
                    }
                    break;
                case 8: {
                    int h = nearHeight(s);
                    due("ways " + s + " " + h, x.ways(s, h), o.ways(s, h));
                    break;
                }
                case 9: {
                    int h = nearHeight(s) - upTo(2);
                    due("untie " + s + " " + h, x.untie(s, h), o.untie(s, h));
                    break;
                }
                case 10: {
                    int h = nearHeight(s);
                    due("narrow " + s + " " + h, x.narrow(s, h), o.narrow(s, h));
                    break;
                }
                case 11: due("even " + s, x.even(s), o.even(s)); break;
                case 12: {
                    int what = oneIn(9) ? upTo(6) - 2 : upTo(2);
                    due("order " + what, x.order(what), o.order(what));
                    break;
                }
                case 13: {
                    int what = oneIn(9) ? upTo(6) - 2 : upTo(3);
                    due("loose " + what, x.loose(what), o.loose(what));
                    break;
                }
                case 14: {
                    int k = oneIn(9) ? upTo(44) - 2 : upTo(5);
                    int what = oneIn(9) ? upTo(8) - 2 : upTo(5);
                    due("page " + k + " " + what, x.page(k, what), o.page(k, what));
                    break;
                }
                default: {
                    int what = upTo(20) - 1;
                    due("count " + what, x.count(what), o.count(what));
                    break;
                }
            }
        }

        /** All that can be asked of where things are. */
        private void sweep() {
            if (!oneIn(3)) {
                return;
            }
            Oracle.View v = o.view();
            Oracle.Poured p = v.pour();
            for (int what = -1; what <= 12; what++) {
                for (int i = -1; i <= p.columns.size(); i += oneIn(3) ? 1 : 2) {
                    due("column " + i + " " + what, x.column(i, what), o.column(i, what));
                }
                for (int i = -1; i <= o.s.blocks.size(); i++) {
                    due("block " + i + " " + what, x.block(i, what), o.block(i, what));
                }
                for (int i = -1; i <= v.pieces.size() && what < 8; i += 1 + upTo(4)) {
                    due("piece " + i + " " + what, x.piece(i, what), o.piece(i, what));
                    due("where " + i + " " + what, x.where(i, what), o.where(i, what));
                }
                for (int i = -1; i <= v.notes.size() && what < 5; i++) {
                    due("note " + i + " " + what, x.note(i, what), o.note(i, what));
                }
                for (int i = -1; i <= v.sections.size() && what < 6; i++) {
                    due("section " + i + " " + what, x.section(i, what), o.section(i, what));
                    due("span " + i + " " + what, x.span(i, what), o.span(i, what));
                }
                for (int i = -1; i <= p.page + 1 && what < 6; i += 1 + upTo(3)) {
                    due("page " + i + " " + what, x.page(i, what), o.page(i, what));
                }
            }
        }
    }
}
