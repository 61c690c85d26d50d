import java.math.BigInteger;
import java.util.ArrayDeque;
import java.util.ArrayList;
import java.util.Arrays;
import java.util.Deque;
import java.util.HashMap;
import java.util.HashSet;
import java.util.List;
import java.util.Map;
import java.util.Random;
import java.util.Set;
import java.util.TreeMap;
import java.util.TreeSet;
import java.util.regex.Matcher;
import java.util.regex.Pattern;

/**
 * Long runs of drawn calls, answered by ContourTracer and by Plain, a second reading of the document that
 * works it out from the bare words each time, slowly, and by other means. The draws are the same each time.
 */
public final class ReferenceTest {
    private static final int RUNS = 700, CALLS = 512;
    private static int wrong = 0;

    public static void main(String[] args) {
        for (int run = 0; run < RUNS && wrong < 20; run++) {
            new Run(run).play();
        }
        for (int run = 0; run < 60 && wrong < 20; run++) {
            sweep(run);
        }
        System.out.println(wrong == 0 ? "the two agree" : wrong + " answers differ");
        if (wrong != 0) {
            System.exit(1);
        }
    }

    private static void same(int run, String call, long got, long want) {
        if (got != want) {
            wrong++;
            System.out.println("run " + run + ": " + call + " answered " + got + ", due is " + want);
        }
    }

    /** One ground, all that can be asked of it by some LEVELS. */
    private static void sweep(int run) {
        Random draw = new Random(9000 + run);
        ContourTracer x = new ContourTracer();
        Plain p = new Plain();
        int high = 2 + draw.nextInt(6);
        int wide = 2 + draw.nextInt(6);
        same(run, "size", x.size(high, wide), p.size(high, wide));
        int[] few = {draw.nextInt(100), draw.nextInt(100), draw.nextInt(100)};
        for (int i = 0; i < high * wide; i++) {
            int v = run % 2 == 0 ? few[draw.nextInt(3)] : draw.nextInt(100);
            same(run, "height " + i, x.height(i, v), p.height(i, v));
        }
        same(run, "rule", x.rule(run % 5), p.rule(run % 5));
        for (int what = -1; what < 10; what++) {
            same(run, "told " + what, x.told(what), p.told(what));
        }
        for (int step = 1; step <= 50; step += 7) {
            for (int what = 0; what < 3; what++) {
                same(run, "tree " + step + " " + what, x.tree(step, what), p.tree(step, what));
            }
        }
        for (int point = 0; point < high * wide; point++) {
            same(run, "stands " + point, x.stands(point), p.stands(point));
            int other = draw.nextInt(high * wide);
            same(run, "pass " + point + " " + other, x.pass(point, other), p.pass(point, other));
        }
        for (int level : new int[] {0, few[0], Math.min(99, few[1] + 1), few[2], draw.nextInt(100)}) {
            sweepLevel(run, x, p, level);
        }
    }

    private static void sweepLevel(int run, ContourTracer x, Plain p, int level) {
        for (int what = 0; what < 8; what++) {
            same(run, "at " + level + " " + what, x.at(level, what), p.at(level, what));
        }
        for (int e = -2; e < 170; e++) {
            same(run, "edge " + level + " " + e, x.edge(level, e), p.edge(level, e));
        }
        for (int s = -1; s < 66; s++) {
            same(run, "square " + level + " " + s, x.square(level, s, 0), p.square(level, s, 0));
            same(run, "square joined " + level + " " + s, x.square(level, s, 1), p.square(level, s, 1));
        }
        for (int i = 0; i < 58; i++) {
            same(run, "picture " + level + " " + i, x.picture(level, i), p.picture(level, i));
        }
        for (int l = 0; l <= Math.max(0, x.at(level, 0)); l++) {
            for (int what = 0; what < 8; what++) {
                same(run, "line " + level + " " + l + " " + what, x.line(level, l, what), p.line(level, l, what));
            }
            for (int i = 0; i < 60; i++) {
                same(run, "goes " + level + " " + l + " " + i, x.goes(level, l, i), p.goes(level, l, i));
                same(run, "ways " + level + " " + l + " " + i, x.ways(level, l, i), p.ways(level, l, i));
                same(run, "holds " + level + " " + l + " " + i, x.holds(level, l, i), p.holds(level, l, i));
            }
        }
        for (int i = 0; i < 50; i++) {
            same(run, "land " + level + " " + i, x.land(level, i), p.land(level, i));
        }
        for (int l = 0; l <= Math.max(0, x.at(level, 2)); l++) {
            for (int what = 0; what < 5; what++) {
                same(run, "landOf " + level + " " + l + " " + what, x.landOf(level, l, what), p.landOf(level, l, what));
            }
        }
    }

    /** A run of drawn calls, most of them with numbers that are as told, some just beyond. */
    private static final class Run {
        final int run;
        final Random draw;
        final ContourTracer x = new ContourTracer();
        final Plain p = new Plain();
        final int[] few = new int[4];

        Run(int run) {
            this.run = run;
            draw = new Random(run);
            for (int i = 0; i < few.length; i++) {
                few[i] = draw.nextInt(100);
            }
        }

        void play() {
            for (int call = 0; call < CALLS; ) {
                int change = draw.nextInt(100);
                if (change < 3) {
                    call += text();
                } else if (change < 6) {
                    call += scatter();
                } else {
                    call++;
                    one();
                }
            }
        }

        int any(int from, int to) {
            int odd = draw.nextInt(200);
            if (odd == 0) {
                return Integer.MAX_VALUE;
            }
            if (odd == 1) {
                return Integer.MIN_VALUE;
            }
            return from - (odd < 8 ? 1 : 0) + draw.nextInt(to - from + 1 + (odd < 16 ? 2 : 0));
        }

        int level() {
            int d = draw.nextInt(6);
            return d < 4 ? few[d] + (draw.nextInt(4) == 0 ? 1 : 0) : any(0, 99);
        }

        int heightDrawn() {
            return draw.nextInt(4) == 0 ? any(0, 99) : few[draw.nextInt(4)];
        }

        int point() {
            return any(0, Math.max(3, p.high * p.wide - 1));
        }

        int scatter() {
            int n = p.high * p.wide;
            for (int i = 0; i < n; i++) {
                int v = heightDrawn();
                check("height(" + i + ", " + v + ")", x.height(i, v), p.height(i, v));
            }
            return n;
        }

        String clause() {
            switch (draw.nextInt(7)) {
                case 0: return "size " + any(2, 7) % 100 + " " + any(2, 7) % 100;
                case 1: return "point " + draw.nextInt(50) + " " + draw.nextInt(100);
                case 2: return "fill " + draw.nextInt(20) + " 0" + draw.nextInt(10) + " " + draw.nextInt(100);
                case 3: return "fill " + draw.nextInt(9) + " " + (9 + draw.nextInt(40)) + " " + draw.nextInt(100);
                case 4: return "hill " + draw.nextInt(50) + " " + draw.nextInt(100) + " " + draw.nextInt(30);
                case 5: return "rule " + draw.nextInt(6);
                default: return "turn";
            }
        }

        int text() {
            StringBuilder s = new StringBuilder();
            int clauses = draw.nextInt(6) == 0 ? 14 : 1 + draw.nextInt(5);
            for (int i = 0; i < clauses; i++) {
                s.append(i == 0 ? "" : ";").append(clauses == 14 ? "turn" : clause());
            }
            if (draw.nextInt(3) == 0 && s.length() > 0) {
                int at = draw.nextInt(s.length());
                switch (draw.nextInt(3)) {
                    case 0: s.setLength(at); break;
                    case 1: s.setCharAt(at, "s;p 9tu0".charAt(draw.nextInt(8))); break;
                    default: s.insert(at, "; 1\0et".charAt(draw.nextInt(6))); break;
                }
            }
            for (int i = 0; i < s.length(); i++) {
                check("feed(" + (int) s.charAt(i) + ")", x.feed(s.charAt(i)), p.feed(s.charAt(i)));
            }
            check("count(3)", x.count(3), p.count(3));
            if (draw.nextInt(8) != 0) {
                check("read() of " + s, x.read(), p.read());
            }
            return s.length() + 2;
        }

        void check(String call, long got, long want) {
            same(run, call, got, want);
        }

        void one() {
            int which = draw.nextInt(38);
            if (which < 12) {
                ground(which);
            } else if (which < 22) {
                linesAndLands(which);
            } else {
                rest(which);
            }
        }

        void ground(int which) {
            int a = point(), b = heightDrawn(), l = level(), w = any(0, 8);
            switch (which) {
                case 0: {
                    if (draw.nextInt(4) != 0) {
                        break;
                    }
                    int h = any(2, 7), v = any(2, 7);
                    check("size(" + h + ", " + v + ")", x.size(h, v), p.size(h, v));
                    break;
                }
                case 1: case 2: case 3:
                    check("height(" + a + ", " + b + ")", x.height(a, b), p.height(a, b));
                    break;
                case 4: {
                    int k = any(0, 4);
                    check("rule(" + k + ")", x.rule(k), p.rule(k));
                    break;
                }
                case 5: {
                    int sign = any(0, 127);
                    check("feed(" + sign + ")", x.feed(sign), p.feed(sign));
                    break;
                }
                case 6:
                    check("of(" + a + ")", x.of(a), p.of(a));
                    break;
                case 7:
                    check("told(" + w + ")", x.told(w), p.told(w));
                    break;
                case 8: case 9:
                    check("at(" + l + ", " + w + ")", x.at(l, w), p.at(l, w));
                    break;
                case 10: {
                    int s = any(0, (p.high + 1) * (p.wide + 1) - 1), q = any(0, 1);
                    check("square(" + l + ", " + s + ", " + q + ")", x.square(l, s, q), p.square(l, s, q));
                    break;
                }
                default: {
                    int e = any(0, 2 * (p.high + 2) * (p.wide + 2));
                    check("edge(" + l + ", " + e + ")", x.edge(l, e), p.edge(l, e));
                    break;
                }
            }
        }

        void linesAndLands(int which) {
            int a = point(), b = point(), l = level(), n = any(0, 3), i = any(0, 20), w = any(0, 6);
            switch (which) {
                case 12: check("line(" + l + ", " + n + ", " + w + ")", x.line(l, n, w), p.line(l, n, w)); break;
                case 13: check("goes(" + l + ", " + n + ", " + i + ")", x.goes(l, n, i), p.goes(l, n, i)); break;
                case 14: check("holds(" + l + ", " + n + ", " + a + ")", x.holds(l, n, a), p.holds(l, n, a)); break;
                case 15: check("ways(" + l + ", " + n + ", " + i + ")", x.ways(l, n, i), p.ways(l, n, i)); break;
                case 16: {
                    int k = any(0, p.high * (p.wide + 1));
                    check("picture(" + l + ", " + k + ")", x.picture(l, k), p.picture(l, k));
                    break;
                }
                case 17: check("land(" + l + ", " + a + ")", x.land(l, a), p.land(l, a)); break;
                case 18: {
                    int q = any(0, 3);
                    check("landOf(" + l + ", " + n + ", " + q + ")", x.landOf(l, n, q), p.landOf(l, n, q));
                    break;
                }
                case 19: check("pass(" + a + ", " + b + ")", x.pass(a, b), p.pass(a, b)); break;
                case 20: check("stands(" + a + ")", x.stands(a), p.stands(a)); break;
                default: {
                    int s = any(1, 50), q = any(0, 2);
                    check("tree(" + s + ", " + q + ")", x.tree(s, q), p.tree(s, q));
                    break;
                }
            }
        }

        void rest(int which) {
            int a = draw.nextInt(9) == 0 ? -1 : point(), b = heightDrawn(), l = level(), q = any(0, 2);
            int t = any(0, 5), u = any(0, 5);
            switch (which) {
                case 22: { int m = level(); check("between(" + l + ", " + m + ")", x.between(l, m), p.between(l, m)); break; }
                case 23: { int is = any(0, 1); check("see(" + a + ", " + is + ")", x.see(a, is), p.see(a, is)); break; }
                case 24: check("fits(" + q + ")", x.fits(q), p.fits(q)); break;
                case 25: check("odds(" + a + ", " + q + ")", x.odds(a, q), p.odds(a, q)); break;
                case 26: check("mean(" + q + ")", x.mean(q), p.mean(q)); break;
                case 27: {
                    int w = draw.nextInt(20) == 0 ? -1 : any(0, 4);
                    int n = w < 2 ? point() : w == 2 ? any(0, 99) : w == 3 ? any(0, 4) : any(0, 1);
                    check("event(" + w + ", " + n + ")", x.event(w, n), p.event(w, n));
                    break;
                }
                case 28: check("after(" + l + ", " + q + ")", x.after(l, q), p.after(l, q)); break;
                case 29: {
                    int v = draw.nextBoolean() ? p.of(a) : b;
                    check("book(" + a + ", " + v + ")", x.book(a, v), p.book(a, v));
                    break;
                }
                case 30: check("looked()", x.looked(), p.looked()); break;
                case 31: tellHeights(t, any(0, 12)); break;
                case 32: check("image()", x.image(), p.image()); break;
                case 33: check("undo()", x.undo(), p.undo()); break;
                case 34: { int w = any(0, 3); check("count(" + w + ")", x.count(w), p.count(w)); break; }
                case 35: {
                    int s = any(-1, 4), n = any(0, 60);
                    check("tape(" + t + ", " + s + ", " + n + ")", x.tape(t, s, n), p.tape(t, s, n));
                    break;
                }
                case 36: {
                    int i = any(0, 60);
                    long v = draw.nextInt(3) == 0 ? draw.nextInt(2) : draw.nextLong();
                    check("item(" + t + ", " + i + ", " + v + ")", x.item(t, i, v), p.item(t, i, v));
                    check("peek(" + t + ", " + i + ")", x.peek(t, i), p.peek(t, i));
                    break;
                }
                default: {
                    int i = any(0, 20), j = any(0, 20), n = any(0, 20);
                    if (draw.nextInt(3) == 0) {
                        u = t;
                    }
                    check("shift(" + t + ", " + i + ", " + u + ", " + j + ", " + n + ")", x.shift(t, i, u, j, n), p.shift(t, i, u, j, n));
                    for (int k = 0; k < 60; k++) {
                        check("peek(" + u + ", " + k + ")", x.peek(u, k), p.peek(u, k));
                    }
                    break;
                }
            }
        }

        /** Tells a row of bytes all HEIGHTS, or all but one, and has them judged. */
        void tellHeights(int t, int from) {
            int n = p.high * p.wide;
            if (draw.nextInt(3) != 0) {
                check("tape(" + t + ", 0, " + Math.min(60, from + n) + ")",
                        x.tape(t, 0, Math.min(60, from + n)), p.tape(t, 0, Math.min(60, from + n)));
                int other = draw.nextInt(2 * n);
                for (int i = 0; i < n; i++) {
                    long v = p.of(i) + (i == other ? 1 : 0) + 256L * draw.nextInt(3);
                    check("item(" + t + ", " + (from + i) + ", " + v + ")", x.item(t, from + i, v), p.item(t, from + i, v));
                }
            }
            check("judge(" + t + ", " + from + ")", x.judge(t, from), p.judge(t, from));
        }
    }

    private static final class Loop {
        final List<Integer> edges = new ArrayList<>();
        final StringBuilder ways = new StringBuilder();
    }

    /** The document, word by word. */
    private static final class Plain {
        static final int NONE = -1, BAD = -2, STATE = -3, FULL = -4;
        static final long NO = Long.MIN_VALUE;
        static final String NUMBER = " [0-9][0-9]?";
        static final String CLAUSE = "(?:size" + NUMBER + NUMBER + "|point" + NUMBER + NUMBER + "|fill" + NUMBER + NUMBER
                + NUMBER + "|hill" + NUMBER + NUMBER + NUMBER + "|rule" + NUMBER + "|turn)";
        static final Pattern SET_UP = Pattern.compile(CLAUSE + "(?:;" + CLAUSE + "){0,11}");

        int high = 6, wide = 6, kind = 0;
        int[] heights = new int[36];
        List<int[]> seen = new ArrayList<>(), events = new ArrayList<>(), book = new ArrayList<>();
        StringBuilder text = new StringBuilder();
        Plain image;
        Object[] tapes = new Object[6];

        int h(int row, int column) {
            return row < 0 || column < 0 || row >= high || column >= wide ? -1 : heights[row * wide + column];
        }

        boolean in(int level, int row, int column) {
            return h(row, column) >= level;
        }

        boolean noPoint(int point) {
            return point < 0 || point >= high * wide;
        }

        static boolean noLevel(int level) {
            return level < 0 || level > 99;
        }

        int number(int row, int column) {
            return (wide + 2) * (row + 1) + column + 1;
        }

        int rowOf(int place) {
            return place / (wide + 2) - 1;
        }

        int columnOf(int place) {
            return place % (wide + 2) - 1;
        }

        int size(int newHigh, int newWide) {
            if (newHigh < 2 || newHigh > 7 || newWide < 2 || newWide > 7) {
                return BAD;
            }
            int was = 10 * high + wide;
            high = newHigh;
            wide = newWide;
            heights = new int[high * wide];
            return was;
        }

        int height(int point, int v) {
            if (noPoint(point)) {
                return NONE;
            }
            if (v < 0 || v > 99) {
                return BAD;
            }
            int was = heights[point];
            heights[point] = v;
            return was;
        }

        int rule(int newKind) {
            if (newKind < 0 || newKind > 4) {
                return NONE;
            }
            int was = kind;
            kind = newKind;
            return was;
        }

        int feed(int sign) {
            if (sign < 0 || sign > 127) {
                return BAD;
            }
            if (text.length() == 100) {
                return FULL;
            }
            text.append((char) sign);
            return text.length();
        }

        int read() {
            String all = text.toString();
            text.setLength(0);
            for (int end = 0; end <= all.length(); end++) {
                Matcher m = SET_UP.matcher(all.substring(0, end));
                if (!m.matches() && !m.hitEnd()) {
                    return -10 - (end - 1);
                }
            }
            if (!SET_UP.matcher(all).matches()) {
                return -10 - all.length();
            }
            int done = 0;
            for (String clause : all.split(";")) {
                String[] part = clause.split(" ");
                int[] n = new int[3];
                for (int i = 1; i < part.length; i++) {
                    n[i - 1] = Integer.parseInt(part[i]);
                }
                done += clause(part[0], n) ? 1 : 0;
            }
            return done;
        }

        boolean clause(String word, int[] n) {
            if (word.equals("size")) {
                return size(n[0], n[1]) > 0;
            } else if (word.equals("point")) {
                return height(n[0], n[1]) >= 0;
            } else if (word.equals("rule")) {
                return rule(n[0]) >= 0;
            } else if (word.equals("turn")) {
                for (int i = 0; i < heights.length; i++) {
                    heights[i] = 99 - heights[i];
                }
                return true;
            } else if (word.equals("fill")) {
                if (noPoint(n[0]) || noPoint(n[1]) || n[1] / wide < n[0] / wide || n[1] % wide < n[0] % wide) {
                    return false;
                }
                for (int i = 0; i < heights.length; i++) {
                    boolean rows = i / wide >= n[0] / wide && i / wide <= n[1] / wide;
                    boolean columns = i % wide >= n[0] % wide && i % wide <= n[1] % wide;
                    heights[i] = rows && columns ? n[2] : heights[i];
                }
                return true;
            }
            if (noPoint(n[0])) {
                return false;
            }
            for (int row = 0; row < high; row++) {
                for (int column = 0; column < wide; column++) {
                    int k = Math.abs(row - n[0] / wide) + Math.abs(column - n[0] % wide);
                    if (n[1] - n[2] * k > h(row, column)) {
                        heights[row * wide + column] = n[1] - n[2] * k;
                    }
                }
            }
            return true;
        }

        int of(int point) {
            return noPoint(point) ? NONE : heights[point];
        }

        int told(int what) {
            int top = Arrays.stream(heights).max().getAsInt();
            switch (what) {
                case 0: return high;
                case 1: return wide;
                case 2: return kind;
                case 3: return top;
                case 4: {
                    for (int i = heights.length - 1, at = i; ; i--) {
                        at = heights[i] == top ? i : at;
                        if (i == 0) {
                            return at;
                        }
                    }
                }
                case 5: {
                    int half = volume(0) == 0 ? 99 : 0;
                    for (int level = 0; level < 100; level++) {
                        half = 2 * volume(level) >= volume(0) ? level : half;
                    }
                    return half;
                }
                case 6: case 7: {
                    int busy = 0, most = -1;
                    for (int level = 0; level < 100; level++) {
                        int n = loops(level).size();
                        if (n > most) {
                            most = n;
                            busy = level;
                        }
                    }
                    return what == 6 ? busy : most;
                }
                default: return NONE;
            }
        }

        int volume(int level) {
            int volume = 0;
            for (int row = 0; row + 1 < high; row++) {
                for (int column = 0; column + 1 < wide; column++) {
                    for (int corner = 0; corner < 4; corner++) {
                        volume += Math.max(0, h(row + corner / 2, column + corner % 2) - level);
                    }
                }
            }
            return volume;
        }

        int caseOf(int level, int row, int column) {
            return (in(level, row, column) ? 1 : 0) | (in(level, row, column + 1) ? 2 : 0)
                    | (in(level, row + 1, column + 1) ? 4 : 0) | (in(level, row + 1, column) ? 8 : 0);
        }

        boolean saddle(int level, int row, int column) {
            int c = caseOf(level, row, column);
            return c == 5 || c == 10;
        }

        boolean joined(int level, int row, int column) {
            int[] four = {h(row, column), h(row, column + 1), h(row + 1, column + 1), h(row + 1, column)};
            if (kind == 2) {
                return four[0] + four[1] + four[2] + four[3] >= 4 * level;
            } else if (kind == 3) {
                int square = (row + 1) * (wide + 1) + column + 1;
                return (square / (wide + 1) + square % (wide + 1)) % 2 == 0;
            } else if (kind == 4) {
                int ins = 1, outs = 1;
                for (int each : four) {
                    ins *= each >= level ? each - level : 1;
                    outs *= each >= level ? 1 : each - level;
                }
                return ins >= outs;
            }
            return kind == 0;
        }

        int[][] placesOf(int edge) {
            int row = rowOf(edge / 2), column = columnOf(edge / 2);
            return new int[][] {{row, column}, edge % 2 == 0 ? new int[] {row, column + 1} : new int[] {row + 1, column}};
        }

        boolean crossed(int level, int edge) {
            int[][] two = placesOf(edge);
            return in(level, two[0][0], two[0][1]) != in(level, two[1][0], two[1][1]);
        }

        /** By a SQUARE (row and column of its upper left PLACE): EDGES that are joined in it, both ways. */
        Map<Integer, Integer> pairs(int level, int row, int column) {
            int top = 2 * number(row, column), left = top + 1;
            int right = 2 * number(row, column + 1) + 1, bottom = 2 * number(row + 1, column);
            // At each PLACE, in the order of the bits of CASE, its two EDGES.
            int[][] at = {{top, left}, {top, right}, {bottom, right}, {bottom, left}};
            Map<Integer, Integer> pairs = new HashMap<>();
            if (saddle(level, row, column)) {
                boolean joined = joined(level, row, column);
                for (int i = 0; i < 4; i++) {
                    boolean isIn = (caseOf(level, row, column) >> i & 1) == 1;
                    if (isIn != joined) {
                        pairs.put(at[i][0], at[i][1]);
                        pairs.put(at[i][1], at[i][0]);
                    }
                }
                return pairs;
            }
            List<Integer> two = new ArrayList<>();
            for (int e : new int[] {top, left, right, bottom}) {
                if (crossed(level, e)) {
                    two.add(e);
                }
            }
            if (two.size() == 2) {
                pairs.put(two.get(0), two.get(1));
                pairs.put(two.get(1), two.get(0));
            }
            return pairs;
        }

        List<Loop> loops(int level) {
            Set<Integer> left = new TreeSet<>();
            for (int row = -1; row <= high; row++) {
                for (int column = -1; column <= wide; column++) {
                    int e = 2 * number(row, column);
                    if (column < wide && crossed(level, e)) {
                        left.add(e);
                    }
                    if (row < high && crossed(level, e + 1)) {
                        left.add(e + 1);
                    }
                }
            }
            List<Loop> loops = new ArrayList<>();
            while (!left.isEmpty()) {
                Loop loop = new Loop();
                int first = left.iterator().next();
                int e = first;
                do {
                    left.remove(e);
                    loop.edges.add(e);
                    int row = rowOf(e / 2), column = columnOf(e / 2);
                    boolean isIn = in(level, row, column);
                    char way = e % 2 == 0 ? (isIn ? 'u' : 'd') : (isIn ? 'r' : 'l');
                    loop.ways.append(way);
                    e = pairs(level, way == 'u' ? row - 1 : row, way == 'l' ? column - 1 : column).get(e);
                } while (e != first);
                loops.add(loop);
            }
            return loops;
        }

        boolean loopHolds(Loop loop, int row, int column) {
            int n = 0;
            for (int c = column; c < wide; c++) {
                n += loop.edges.contains(2 * number(row, c)) ? 1 : 0;
            }
            return n % 2 == 1;
        }

        boolean loopHoldsLoop(Loop loop, Loop other) {
            int place = other.edges.get(0) / 2;
            return loop != other && loopHolds(loop, rowOf(place), columnOf(place));
        }

        int depth(List<Loop> loops, Loop loop) {
            int depth = 0;
            for (Loop other : loops) {
                depth += loopHoldsLoop(other, loop) ? 1 : 0;
            }
            return depth;
        }

        /** By a POINT its LAND, -5 for those that are OUT. */
        int[] lands(int level) {
            int[] land = new int[heights.length];
            Arrays.fill(land, -5);
            int n = 0;
            for (int point = 0; point < land.length; point++) {
                if (land[point] == -5 && heights[point] >= level) {
                    Deque<Integer> open = new ArrayDeque<>();
                    open.push(point);
                    while (!open.isEmpty()) {
                        int p = open.pop();
                        land[p] = n;
                        for (int q : neighbours(level, p)) {
                            if (land[q] == -5) {
                                open.push(q);
                            }
                        }
                    }
                    n++;
                }
            }
            return land;
        }

        List<Integer> neighbours(int level, int point) {
            List<Integer> found = new ArrayList<>();
            int row = point / wide, column = point % wide;
            for (int dr = -1; dr <= 1; dr++) {
                for (int dc = -1; dc <= 1; dc++) {
                    if ((dr == 0 && dc == 0) || !in(level, row + dr, column + dc)) {
                        continue;
                    }
                    boolean straight = dr == 0 || dc == 0;
                    int r = Math.min(row, row + dr), c = Math.min(column, column + dc);
                    if (straight || (saddle(level, r, c) && joined(level, r, c))) {
                        found.add((row + dr) * wide + column + dc);
                    }
                }
            }
            return found;
        }

        static int most(int[] land) {
            return Math.max(-1, Arrays.stream(land).max().getAsInt()) + 1;
        }

        int at(int level, int what) {
            if (noLevel(level)) {
                return BAD;
            }
            if (what < 0 || what > 7) {
                return NONE;
            }
            List<Loop> loops = loops(level);
            int n = 0;
            switch (what) {
                case 0: return loops.size();
                case 1: return (int) loops.stream().filter(l -> depth(loops, l) % 2 == 0).count();
                case 2: return most(lands(level));
                case 3: return (int) Arrays.stream(heights).filter(v -> v >= level).count();
                case 6: return volume(level);
                case 7: return loops.stream().mapToInt(l -> depth(loops, l)).max().orElse(-5);
                default: {
                    for (int row = -1; row < high; row++) {
                        for (int column = -1; column < wide; column++) {
                            n += saddle(level, row, column) && (what == 4 || joined(level, row, column)) ? 1 : 0;
                        }
                    }
                    return n;
                }
            }
        }

        int square(int level, int square, int what) {
            if (noLevel(level)) {
                return BAD;
            }
            if (square < 0 || square >= (high + 1) * (wide + 1) || what < 0 || what > 1) {
                return NONE;
            }
            int row = square / (wide + 1) - 1, column = square % (wide + 1) - 1;
            return what == 0 ? caseOf(level, row, column) : saddle(level, row, column) && joined(level, row, column) ? 1 : 0;
        }

        int edge(int level, int edge) {
            if (noLevel(level)) {
                return BAD;
            }
            boolean there = false;
            for (int row = -1; row <= high; row++) {
                for (int column = -1; column <= wide; column++) {
                    there |= column < wide && edge == 2 * number(row, column);
                    there |= row < high && edge == 2 * number(row, column) + 1;
                }
            }
            if (!there) {
                return NONE;
            }
            List<Loop> loops = loops(level);
            for (int i = 0; i < loops.size(); i++) {
                if (loops.get(i).edges.contains(edge)) {
                    return i;
                }
            }
            return -5;
        }

        int line(int level, int line, int what) {
            if (noLevel(level)) {
                return BAD;
            }
            List<Loop> loops = loops(level);
            if (line < 0 || line >= loops.size()) {
                return NONE;
            }
            Loop loop = loops.get(line);
            switch (what) {
                case 0: return loop.edges.stream().min(Integer::compare).get();
                case 1: return loop.edges.size();
                case 2: return depth(loops, loop);
                case 3: {
                    TreeMap<Integer, Integer> byDepth = new TreeMap<>();
                    for (int i = 0; i < loops.size(); i++) {
                        if (loopHoldsLoop(loops.get(i), loop)) {
                            byDepth.put(depth(loops, loops.get(i)), i);
                        }
                    }
                    return byDepth.isEmpty() ? -5 : byDepth.lastEntry().getValue();
                }
                case 4: return 1 - depth(loops, loop) % 2;
                case 5: {
                    int sum = 0;
                    for (int i = 0; i < loop.edges.size(); i++) {
                        int[] a = spot(loop.edges.get(i)), b = spot(loop.edges.get((i + 1) % loop.edges.size()));
                        sum += a[0] * b[1] - a[1] * b[0];
                    }
                    return Math.abs(sum);
                }
                case 6: {
                    int n = 0;
                    for (int i = 0; i < heights.length; i++) {
                        n += loopHolds(loop, i / wide, i % wide) ? 1 : 0;
                    }
                    return n;
                }
                default: return NONE;
            }
        }

        int[] spot(int edge) {
            int[][] two = placesOf(edge);
            return new int[] {two[0][1] + two[1][1], two[0][0] + two[1][0]};
        }

        int goes(int level, int line, int i) {
            if (noLevel(level)) {
                return BAD;
            }
            List<Loop> loops = loops(level);
            if (line < 0 || line >= loops.size() || i < 0) {
                return NONE;
            }
            return i < loops.get(line).edges.size() ? loops.get(line).edges.get(i) : -5;
        }

        int holds(int level, int line, int point) {
            if (noLevel(level)) {
                return BAD;
            }
            List<Loop> loops = loops(level);
            if (line < 0 || line >= loops.size() || noPoint(point)) {
                return NONE;
            }
            return loopHolds(loops.get(line), point / wide, point % wide) ? 1 : 0;
        }

        int ways(int level, int line, int i) {
            if (noLevel(level)) {
                return BAD;
            }
            List<Loop> loops = loops(level);
            if (line < 0 || line >= loops.size() || i < 0) {
                return NONE;
            }
            return i < loops.get(line).ways.length() ? loops.get(line).ways.charAt(i) : -5;
        }

        int picture(int level, int i) {
            if (noLevel(level)) {
                return BAD;
            }
            if (i < 0) {
                return NONE;
            }
            StringBuilder s = new StringBuilder();
            for (int row = 0; row < high; row++) {
                s.append(row == 0 ? "" : "/");
                for (int column = 0; column < wide; column++) {
                    s.append(in(level, row, column) ? '#' : '.');
                }
            }
            return i < s.length() ? s.charAt(i) : -5;
        }

        int land(int level, int point) {
            return noLevel(level) ? BAD : noPoint(point) ? NONE : lands(level)[point];
        }

        int landOf(int level, int land, int what) {
            if (noLevel(level)) {
                return BAD;
            }
            int[] all = lands(level);
            if (land < 0 || land >= most(all) || what < 0 || what > 3) {
                return NONE;
            }
            int least = -1, size = 0, top = -1;
            for (int i = all.length - 1; i >= 0; i--) {
                if (all[i] == land) {
                    least = i;
                    size++;
                    top = Math.max(top, heights[i]);
                }
            }
            if (what < 3) {
                return new int[] {least, size, top}[what];
            }
            int holes = 0;
            List<Loop> loops = loops(level);
            for (Loop loop : loops) {
                boolean of = false;
                for (int e : loop.edges) {
                    for (int[] place : placesOf(e)) {
                        of |= h(place[0], place[1]) >= 0 && all[place[0] * wide + place[1]] == land;
                    }
                }
                holes += of && depth(loops, loop) % 2 == 1 ? 1 : 0;
            }
            return holes;
        }

        int pass(int one, int other) {
            if (noPoint(one) || noPoint(other)) {
                return NONE;
            }
            for (int level = 99; level > 0; level--) {
                int[] land = lands(level);
                if (land[one] >= 0 && land[one] == land[other]) {
                    return level;
                }
            }
            return 0;
        }

        int stands(int point) {
            if (noPoint(point)) {
                return NONE;
            }
            for (int level = heights[point]; level >= 0; level--) {
                int[] land = lands(level);
                for (int i = 0; i < land.length; i++) {
                    if (heights[i] > heights[point] && land[i] == land[point]) {
                        return heights[point] - level;
                    }
                }
            }
            return heights[point];
        }

        int tree(int step, int what) {
            if (step < 1 || step > 50) {
                return BAD;
            }
            if (what < 0 || what > 2) {
                return NONE;
            }
            int[] sums = new int[3];
            for (int level = 0; level <= 99; level += step) {
                int[] land = lands(level);
                List<Set<Integer>> within = new ArrayList<>();
                for (int i = 0; i < most(land); i++) {
                    within.add(new HashSet<>());
                }
                int[] next = level + step <= 99 ? lands(level + step) : new int[0];
                for (int i = 0; i < next.length; i++) {
                    if (next[i] >= 0) {
                        within.get(land[i]).add(next[i]);
                    }
                }
                for (Set<Integer> each : within) {
                    sums[0]++;
                    sums[1] += each.isEmpty() ? 1 : 0;
                    sums[2] += each.size() >= 2 ? 1 : 0;
                }
            }
            return sums[what];
        }

        int between(int one, int other) {
            return noLevel(one) || noLevel(other) ? BAD : Math.abs(volume(one) - volume(other));
        }

        static int add(List<int[]> rows, int most, int a, int b) {
            if (rows.size() >= most) {
                return FULL;
            }
            rows.add(new int[] {a, b});
            return rows.size();
        }

        static int clear(List<int[]> rows) {
            rows.clear();
            return 0;
        }

        int see(int point, int is) {
            return point == -1 ? clear(seen) : noPoint(point) ? NONE : is < 0 || is > 1 ? BAD : add(seen, 6, point, is);
        }

        int fits(int what) {
            if (what < 0 || what > 1) {
                return NONE;
            }
            int n = 0, least = -5;
            for (int level = 99; level >= 0; level--) {
                boolean so = true;
                for (int[] row : seen) {
                    so &= !noPoint(row[0]) && (heights[row[0]] >= level) == (row[1] == 1);
                }
                n += so ? 1 : 0;
                least = so ? level : least;
            }
            return what == 0 ? n : least;
        }

        static long part(long above, int part) {
            BigInteger a = BigInteger.valueOf(above), b = BigInteger.valueOf(100), g = a.gcd(b);
            return part == 0 ? a.divide(g).longValue() : b.divide(g).longValue();
        }

        long odds(int point, int part) {
            if (noPoint(point) || part < 0 || part > 1) {
                return NO;
            }
            int n = 0;
            for (int level = 0; level < 100; level++) {
                n += heights[point] >= level ? 1 : 0;
            }
            return part(n, part);
        }

        long mean(int part) {
            if (part < 0 || part > 1) {
                return NO;
            }
            int n = 0;
            for (int level = 0; level < 100; level++) {
                n += loops(level).size();
            }
            return part(n, part);
        }

        int event(int what, int n) {
            if (what == -1) {
                return clear(events);
            }
            if (what < 0 || what > 4 || (what < 2 && noPoint(n))) {
                return NONE;
            }
            int[] most = {0, 0, 99, 4, 0};
            if (what >= 2 && (n < 0 || n > most[what])) {
                return BAD;
            }
            return add(events, 8, what, n);
        }

        int after(int level, int what) {
            if (noLevel(level)) {
                return BAD;
            }
            if (what < 0 || what > 2) {
                return NONE;
            }
            Plain then = copy();
            for (int[] row : events) {
                for (int i = 0; i < then.heights.length; i++) {
                    int v = then.heights[i];
                    if (row[0] == 0 && i == row[1]) {
                        then.heights[i] = v + 10 > 99 ? 99 : v + 10;
                    } else if (row[0] == 1 && i == row[1]) {
                        then.heights[i] = 0;
                    } else if (row[0] == 2) {
                        then.heights[i] = v < row[1] ? 0 : v - row[1];
                    } else if (row[0] == 4) {
                        then.heights[i] = 99 - v;
                    }
                }
                then.kind = row[0] == 3 ? row[1] : then.kind;
            }
            return then.at(level, new int[] {0, 2, 6}[what]);
        }

        int book(int point, int v) {
            return point == -1 ? clear(book) : noPoint(point) ? NONE : v < 0 || v > 99 ? BAD : add(book, 8, point, v);
        }

        int looked() {
            for (int i = 0; i < book.size(); i++) {
                if (of(book.get(i)[0]) != book.get(i)[1]) {
                    return i;
                }
            }
            return -5;
        }

        int judge(int tape, int i) {
            if (tape < 0 || tape > 5) {
                return NONE;
            }
            if (tapes[tape] == null) {
                return 100;
            }
            if (!(tapes[tape] instanceof byte[])) {
                return -12;
            }
            byte[] row = (byte[]) tapes[tape];
            if (i < 0 || i >= row.length) {
                return 100;
            }
            byte[] rest = Arrays.copyOfRange(row, i, row.length);
            for (int k = 0; k < heights.length; k++) {
                if (k >= rest.length) {
                    return 100 + rest.length;
                }
                if (rest[k] != heights[k]) {
                    return k;
                }
            }
            return -5;
        }

        Plain copy() {
            Plain c = new Plain();
            c.take(this);
            return c;
        }

        void take(Plain from) {
            high = from.high;
            wide = from.wide;
            kind = from.kind;
            heights = from.heights.clone();
            seen = new ArrayList<>(from.seen);
            events = new ArrayList<>(from.events);
            book = new ArrayList<>(from.book);
        }

        int image() {
            image = copy();
            return Arrays.stream(heights).sum();
        }

        int undo() {
            if (image == null) {
                return STATE;
            }
            take(image);
            return Arrays.stream(heights).sum();
        }

        int count(int what) {
            return what < 0 || what > 3 ? BAD : new int[] {seen.size(), events.size(), book.size(), text.length()}[what];
        }

        int tape(int tape, int sort, int n) {
            if (tape < 0 || tape > 5) {
                return NONE;
            }
            if (sort == -1) {
                tapes[tape] = null;
                return 1;
            }
            if (sort < -1 || sort > 4 || n > 60) {
                return BAD;
            }
            if (n < 0) {
                return -14;
            }
            switch (sort) {
                case 0: tapes[tape] = new byte[n]; break;
                case 1: tapes[tape] = new short[n]; break;
                case 2: tapes[tape] = new int[n]; break;
                case 3: tapes[tape] = new long[n]; break;
                default: tapes[tape] = new boolean[n]; break;
            }
            return 1;
        }

        static int lengthOf(Object row) {
            return java.lang.reflect.Array.getLength(row);
        }

        int item(int tape, int i, long v) {
            if (tape < 0 || tape > 5) {
                return NONE;
            }
            Object row = tapes[tape];
            if (row == null) {
                return -11;
            }
            if (i < 0 || i >= lengthOf(row)) {
                return -13;
            }
            if (row instanceof byte[]) {
                ((byte[]) row)[i] = (byte) v;
            } else if (row instanceof short[]) {
                ((short[]) row)[i] = (short) v;
            } else if (row instanceof int[]) {
                ((int[]) row)[i] = (int) v;
            } else if (row instanceof long[]) {
                ((long[]) row)[i] = v;
            } else {
                ((boolean[]) row)[i] = v != 0;
            }
            return 1;
        }

        long peek(int tape, int i) {
            if (tape < 0 || tape > 5 || tapes[tape] == null || i < 0 || i >= lengthOf(tapes[tape])) {
                return NO;
            }
            Object item = java.lang.reflect.Array.get(tapes[tape], i);
            return item instanceof Boolean ? ((Boolean) item ? 1 : 0) : ((Number) item).longValue();
        }

        int shift(int tape, int i, int other, int j, int n) {
            if (tape < 0 || tape > 5 || other < 0 || other > 5) {
                return NONE;
            }
            Object from = tapes[tape], to = tapes[other];
            if (from == null || to == null) {
                return -11;
            }
            if (from.getClass() != to.getClass()) {
                return -12;
            }
            if (n < 0 || i < 0 || j < 0 || (long) i + n > lengthOf(from) || (long) j + n > lengthOf(to)) {
                return -13;
            }
            System.arraycopy(from, i, to, j, n);
            return n;
        }
    }
}
