/**
 * Each promise of the document by itself: ordinary numbers, the edges that it names, wrong numbers. Answers are
 * worked out by hand from the document.
 */
public final class PromiseTest {
    private static final long NO = Long.MIN_VALUE;
    private static int wrong = 0;
    private static int promise = 0;

    public static void main(String[] args) {
        promise01();
        promise02();
        promise03();
        promise04();
        promise05();
        promise06Clauses();
        promise06Faults();
        promise07();
        promise08();
        promise09();
        promise10();
        promise10Rules();
        promise11();
        promise12();
        promise13();
        promise14();
        promise15();
        promise16();
        promise17();
        promise18();
        promise19();
        promise20();
        promise21();
        promise22();
        promise23();
        promise24();
        promise25();
        promise26();
        promise27();
        promise28();
        promise29();
        promise30();
        promise31();
        promise32();
        promise33();
        promise34();
        promise35();
        promise36();
        promise37();
        promise38();
        System.out.println(wrong == 0 ? "all promises hold" : wrong + " answers are not as due");
        if (wrong != 0) {
            System.exit(1);
        }
    }

    private static void due(String call, long got, long want) {
        if (got != want) {
            wrong++;
            System.out.println("promise " + promise + ": " + call + " answered " + got + ", due is " + want);
        }
    }

    private static int read(ContourTracer x, String text) {
        for (int i = 0; i < text.length(); i++) {
            x.feed(text.charAt(i));
        }
        return x.read();
    }

    private static ContourTracer made(String text) {
        ContourTracer x = new ContourTracer();
        int clauses = text.split(";").length;
        due("read() of " + text, read(x, text), clauses);
        return x;
    }

    /** A LEVEL's picture as one text. */
    private static String drawn(ContourTracer x, int level) {
        StringBuilder s = new StringBuilder();
        for (int i = 0; x.picture(level, i) >= 0; i++) {
            s.append((char) x.picture(level, i));
        }
        return s.toString();
    }

    private static String walked(ContourTracer x, int level, int line) {
        StringBuilder s = new StringBuilder();
        for (int i = 0; x.ways(level, line, i) >= 0; i++) {
            s.append((char) x.ways(level, line, i));
        }
        return s.toString();
    }

    private static void alike(String call, String got, String want) {
        if (!got.equals(want)) {
            wrong++;
            System.out.println("promise " + promise + ": " + call + " answered " + got + ", due is " + want);
        }
    }

    /** 3 rows of 4: a checkered middle. By LEVEL 50 the IN ones are 1, 3, 4, 6, 9, 11. */
    private static ContourTracer checkered() {
        return made("size 3 4;point 1 60;point 3 60;point 4 60;point 6 60;point 9 60;point 11 60");
    }

    /** A ring of 40 in 5 by 5 with a hole of 10, in which one of 70 stands. */
    private static ContourTracer ringed() {
        return made("size 5 5;fill 0 24 40;fill 6 18 10;point 12 70");
    }

    private static void promise01() {
        promise = 1;
        ContourTracer x = new ContourTracer();
        due("told(0)", x.told(0), 6);
        due("told(1)", x.told(1), 6);
        due("told(2)", x.told(2), 0);
        for (int i = 0; i < 36; i++) {
            due("of(" + i + ")", x.of(i), 0);
            due("peek", x.peek(i % 6, 0), NO);
        }
        due("of(36)", x.of(36), -1);
        for (int what = 0; what < 4; what++) {
            due("count(" + what + ")", x.count(what), 0);
        }
        due("undo()", x.undo(), -3);
        due("height(0, 9)", x.height(0, 9), 0);
        due("height(7, 9)", x.height(7, 9), 0);
        due("square(5, 8, 1): JOINED at first", x.square(5, 8, 1), 1);
        ContourTracer y = new ContourTracer();
        due("another object is another ground", y.of(0), 0);
    }

    private static void promise02() {
        promise = 2;
        ContourTracer x = new ContourTracer();
        x.height(35, 50);
        x.rule(3);
        int[][] bad = {{1, 2}, {2, 1}, {8, 7}, {7, 8}, {-1, 3}, {3, Integer.MAX_VALUE}, {Integer.MIN_VALUE, 3}};
        for (int[] b : bad) {
            due("size(" + b[0] + ", " + b[1] + ")", x.size(b[0], b[1]), -2);
        }
        due("of(35) after BAD", x.of(35), 50);
        due("size(2, 7)", x.size(2, 7), 66);
        due("of(13)", x.of(13), 0);
        due("of(14)", x.of(14), -1);
        due("told(0)", x.told(0), 2);
        due("told(1)", x.told(1), 7);
        due("told(2): THE RULE stays", x.told(2), 3);
        due("height(13, 5)", x.height(13, 5), 0);
        due("size(7, 2)", x.size(7, 2), 27);
        due("of(13)", x.of(13), 0);
        due("size(7, 2) again", x.size(7, 2), 72);
    }

    private static void promise03() {
        promise = 3;
        ContourTracer x = new ContourTracer();
        due("height(0, 99)", x.height(0, 99), 0);
        due("height(0, 0)", x.height(0, 0), 99);
        due("height(35, 7)", x.height(35, 7), 0);
        due("of(35)", x.of(35), 7);
        due("height(0, 100)", x.height(0, 100), -2);
        due("height(0, -1)", x.height(0, -1), -2);
        due("height(36, 100): the first named", x.height(36, 100), -1);
        due("height(-1, 5)", x.height(-1, 5), -1);
        due("height(MAX, 5)", x.height(Integer.MAX_VALUE, 5), -1);
        due("height(MIN, 5)", x.height(Integer.MIN_VALUE, 5), -1);
        due("of(0)", x.of(0), 0);
        due("of(34)", x.of(34), 0);
    }

    private static void promise04() {
        promise = 4;
        ContourTracer x = new ContourTracer();
        for (int kind = 0; kind < 5; kind++) {
            due("rule(" + kind + ")", x.rule(kind), Math.max(0, kind - 1));
            due("told(2)", x.told(2), kind);
        }
        due("rule(5)", x.rule(5), -1);
        due("rule(-1)", x.rule(-1), -1);
        due("told(2)", x.told(2), 4);
    }

    private static void promise05() {
        promise = 5;
        ContourTracer x = new ContourTracer();
        due("feed(0)", x.feed(0), 1);
        due("feed(127)", x.feed(127), 2);
        due("feed(128)", x.feed(128), -2);
        due("feed(-1)", x.feed(-1), -2);
        due("count(3)", x.count(3), 2);
        for (int i = 3; i <= 100; i++) {
            due("feed('t')", x.feed('t'), i);
        }
        due("feed('t')", x.feed('t'), -4);
        due("feed(128): the first named", x.feed(128), -2);
        due("count(3)", x.count(3), 100);
        due("read()", x.read(), -10);
        due("count(3)", x.count(3), 0);
        due("feed('t')", x.feed('t'), 1);
    }

    private static void promise06Clauses() {
        promise = 6;
        ContourTracer x = new ContourTracer();
        due("size", read(x, "size 3 04"), 1);
        due("told(0)", x.told(0), 3);
        due("told(1)", x.told(1), 4);
        due("point", read(x, "point 11 99"), 1);
        due("of(11)", x.of(11), 99);
        due("fill", read(x, "fill 1 6 20"), 1);
        alike("picture", drawn(x, 20), ".##./.##./...#");
        due("fill, one POINT", read(x, "fill 8 8 21"), 1);
        alike("picture", drawn(x, 20), ".##./.##./#..#");
        due("fill: row less", read(x, "fill 4 1 50"), 0);
        due("fill: column less", read(x, "fill 3 4 50"), 0);
        due("fill: no first", read(x, "fill 12 12 50"), 0);
        due("fill: no second", read(x, "fill 0 12 50"), 0);
        due("told(3)", x.told(3), 99);
        due("at(50, 3)", x.at(50, 3), 1);
        due("hill", read(x, "hill 5 30 8"), 1);
        int[] due = {14, 22, 20, 6, 22, 30, 22, 14, 21, 22, 14, 99};
        for (int i = 0; i < 12; i++) {
            due("of(" + i + ") by hill", x.of(i), due[i]);
        }
        due("hill: none", read(x, "hill 12 90 1"), 0);
        due("rule", read(x, "rule 4;rule 5"), 1);
        due("told(2)", x.told(2), 4);
        due("turn", read(x, "turn"), 1);
        due("of(11)", x.of(11), 0);
        due("of(5)", x.of(5), 69);
        due("size refused", read(x, "size 8 2;size 2 1;point 12 1;turn"), 1);
        due("of(5)", x.of(5), 30);
        due("one behind the other", read(x, "size 2 2;point 4 1;size 2 3;point 4 1;hill 0 5 99"), 4);
        due("of(4)", x.of(4), 1);
        due("of(0)", x.of(0), 5);
        due("of(1): a hill digs not", x.of(1), 0);
        due("twelve", read(x, "turn;turn;turn;turn;turn;turn;turn;turn;turn;turn;turn;turn"), 12);
        due("of(0)", x.of(0), 5);
    }

    private static void promise06Faults() {
        promise = 6;
        String[] texts = {"", "x", "siz", "size", "size ", "size 4", "size 4 ", "size  4 4", "size 4 4 ", "size 4 4 4",
            "size 123 4", "size 4 123", "point 1", "point 1;", "fill 0 1", "hill 0 1 2 3", "rule", "rule 1 1", "turn ",
            "turn 1", "turns", "turn;", "turn; turn", "turn;;turn", ";turn", " turn", "Turn", "turn;size 2 2;point 0 9;?",
            "size -4 4", "size 4,4", "tiurn", "ruse 1", "size\t4 4",
            "turn;turn;turn;turn;turn;turn;turn;turn;turn;turn;turn;turn;",
            "turn;turn;turn;turn;turn;turn;turn;turn;turn;turn;turn;turn;turn"};
        int[] faults = {0, 0, 3, 4, 5, 6, 7, 5, 8, 8, 7, 9, 7, 7, 8, 10, 4, 6, 4, 4, 4, 5, 5, 5, 0, 0, 0, 24, 5, 6, 1, 2, 4,
            59, 59};
        for (int i = 0; i < texts.length; i++) {
            ContourTracer y = new ContourTracer();
            y.height(0, 7);
            due("read() of '" + texts[i] + "'", read(y, texts[i]), -10 - faults[i]);
            due("count(3)", y.count(3), 0);
            due("of(0): nothing was done", y.of(0), 7);
            due("told(0): nothing was done", y.told(0), 6);
        }
        ContourTracer x = new ContourTracer();
        StringBuilder full = new StringBuilder();
        for (int i = 0; i < 8; i++) {
            full.append("point 00 10;");
        }
        due("read() of 100 bytes that end too early", read(x, full.append("poin").toString()), -110);
        full.setLength(96);
        due("read() of 100 bytes", read(x, full.append("turn").toString()), 9);
        full.setLength(72);
        due("read() of 100 bytes, ; the last", read(x, full.append("hill 00 10 10;rule 1;rule 1;").toString()), -110);
    }

    private static void promise07() {
        promise = 7;
        ContourTracer x = made("size 2 3;point 5 42");
        due("of(5)", x.of(5), 42);
        due("of(0)", x.of(0), 0);
        due("of(6)", x.of(6), -1);
        due("of(-1)", x.of(-1), -1);
        due("of(MAX)", x.of(Integer.MAX_VALUE), -1);
        due("of(MIN)", x.of(Integer.MIN_VALUE), -1);
    }

    private static void promise08() {
        promise = 8;
        ContourTracer x = made("size 3 4;point 7 30;point 2 30;rule 2;point 9 10");
        int[] due = {3, 4, 2, 30, 2};
        for (int what = 0; what < due.length; what++) {
            due("told(" + what + ")", x.told(what), due[what]);
        }
        due("told(8)", x.told(8), -1);
        due("told(-1)", x.told(-1), -1);
        // 5 by 5, one POINT of 10 amid: it is of 4 SQUARES, so VOLUME is 40, and 20 by LEVEL 5.
        x = made("size 5 5;point 12 10");
        due("told(5) even", x.told(5), 5);
        x.height(12, 11);
        due("told(5) odd", x.told(5), 5);
        x.height(12, 0);
        due("told(5) flat", x.told(5), 99);
        x.height(12, 1);
        due("told(5): none above LEVEL 0", x.told(5), 0);
        x.height(12, 0);
        due("told(4) flat", x.told(4), 0);
        // Three single POINTS of 20, 30, 30: LEVELS 1 .. 20 have three LINES.
        x = made("size 5 5;point 0 20;point 12 30;point 24 30");
        due("told(6)", x.told(6), 1);
        due("told(7)", x.told(7), 3);
        x.height(6, 40);
        x.rule(1);
        due("told(6), one more", x.told(6), 1);
        due("told(7), one more", x.told(7), 4);
        x.rule(0);
        due("told(7), joined: 0, 6 and 12 are one", x.told(7), 2);
        due("told(6), joined", x.told(6), 1);
        x = made("fill 0 35 99");
        due("told(5), all 99", x.told(5), 49);
        due("told(6), all 99", x.told(6), 0);
        due("told(7), all 99", x.told(7), 1);
    }

    private static void promise09() {
        promise = 9;
        ContourTracer x = checkered();
        due("at(50, 0) ALL: one round all, one round POINT 5", x.at(50, 0), 2);
        due("at(50, 1) ALL", x.at(50, 1), 1);
        due("at(50, 2) ALL", x.at(50, 2), 1);
        due("at(50, 3)", x.at(50, 3), 6);
        due("at(50, 4)", x.at(50, 4), 6);
        due("at(50, 5)", x.at(50, 5), 6);
        // 1, 4 and 9 are at a rim (2 SQUARES each), 3 and 11 in a corner, 6 is inside.
        due("at(50, 6)", x.at(50, 6), 10 * (2 + 1 + 2 + 4 + 2 + 1));
        due("at(50, 7)", x.at(50, 7), 1);
        x.rule(1);
        due("at(50, 0) NONE", x.at(50, 0), 6);
        due("at(50, 1) NONE", x.at(50, 1), 6);
        due("at(50, 2) NONE", x.at(50, 2), 6);
        due("at(50, 5) NONE", x.at(50, 5), 0);
        due("at(50, 7) NONE", x.at(50, 7), 0);
        due("at(60, 3)", x.at(60, 3), 6);
        due("at(61, 0)", x.at(61, 0), 0);
        due("at(61, 7)", x.at(61, 7), -5);
        due("at(0, 0)", x.at(0, 0), 1);
        due("at(99, 2)", x.at(99, 2), 0);
        due("at(100, 8): the first named", x.at(100, 8), -2);
        due("at(-1, 0)", x.at(-1, 0), -2);
        due("at(50, 8)", x.at(50, 8), -1);
        due("at(50, -1)", x.at(50, -1), -1);
        x = ringed();
        due("ringed at(20, 7)", x.at(20, 7), 2);
        due("ringed at(20, 1)", x.at(20, 1), 2);
        due("ringed at(20, 2)", x.at(20, 2), 2);
    }

    private static void promise10() {
        promise = 10;
        ContourTracer x = checkered();
        due("square(50, 0, 0)", x.square(50, 0, 0), 0);
        due("square(50, 1, 0)", x.square(50, 1, 0), 4);
        due("square(50, 4, 0)", x.square(50, 4, 0), 8);
        due("square(50, 5, 0)", x.square(50, 5, 0), 4);
        due("square(50, 6, 0)", x.square(50, 6, 0), 10);
        due("square(50, 7, 0)", x.square(50, 7, 0), 5);
        due("square(50, 19, 0)", x.square(50, 19, 0), 1);
        due("square(50, 16, 0)", x.square(50, 16, 0), 2);
        due("square(0, 6, 0)", x.square(0, 6, 0), 15);
        due("square(0, 6, 1)", x.square(0, 6, 1), 0);
        due("square(50, 6, 1)", x.square(50, 6, 1), 1);
        due("square(50, 0, 1)", x.square(50, 0, 1), 0);
        due("square(50, 20, 0)", x.square(50, 20, 0), -1);
        due("square(50, -1, 0)", x.square(50, -1, 0), -1);
        due("square(50, 0, 2)", x.square(50, 0, 2), -1);
        due("square(50, 0, -1)", x.square(50, 0, -1), -1);
        due("square(100, 20, 2): the first named", x.square(100, 20, 2), -2);
        due("square(-1, 0, 0)", x.square(-1, 0, 0), -2);
    }

    private static void promise10Rules() {
        promise = 10;
        ContourTracer x = checkered();
        x.rule(1);
        due("NONE", x.square(50, 6, 1), 0);
        x.rule(2);
        due("MEAN at 30", x.square(30, 6, 1), 1);
        due("MEAN at 31", x.square(31, 6, 1), 0);
        x.rule(3);
        due("CHECKED 6 (1, 1)", x.square(50, 6, 1), 1);
        due("CHECKED 7 (1, 2)", x.square(50, 7, 1), 0);
        due("CHECKED 11 (2, 1)", x.square(50, 11, 1), 0);
        due("CHECKED 12 (2, 2)", x.square(50, 12, 1), 1);
        due("CHECKED, no SADDLE", x.square(50, 0, 1), 0);
        x.rule(4);
        due("CROSS at 30: as much", x.square(30, 6, 1), 1);
        due("CROSS at 31", x.square(31, 6, 1), 0);
        due("CROSS at 30, CASE 5", x.square(30, 7, 1), 1);
        due("CROSS at 31, CASE 5", x.square(31, 7, 1), 0);
        // 60 and 20 against 0 and 10 by LEVEL 18: 42 * 2 against 18 * 8.
        x = made("size 2 2;point 0 60;point 3 20;point 1 0;point 2 10;rule 4");
        due("CROSS is no MEAN", x.square(18, 4, 1), 0);
        x.rule(2);
        due("MEAN is no CROSS", x.square(18, 4, 1), 1);
    }

    private static void promise11() {
        promise = 11;
        // 2 by 2: PLACES 0 .. 15, POINTS are PLACES 5, 6, 9, 10.
        ContourTracer x = made("size 2 2;point 0 9;point 3 9;rule 1");
        due("edge(5, 3): above the first", x.edge(5, 3), 0);
        due("edge(5, 8)", x.edge(5, 8), 0);
        due("edge(5, 10)", x.edge(5, 10), 0);
        due("edge(5, 11)", x.edge(5, 11), 0);
        due("edge(5, 13)", x.edge(5, 13), 1);
        due("edge(5, 18)", x.edge(5, 18), 1);
        due("edge(5, 20)", x.edge(5, 20), 1);
        due("edge(5, 21)", x.edge(5, 21), 1);
        due("edge(5, 5)", x.edge(5, 5), -5);
        due("edge(5, 0)", x.edge(5, 0), -5);
        due("edge(5, 6): right of the last", x.edge(5, 6), -1);
        due("edge(5, 7)", x.edge(5, 7), -5);
        due("edge(5, 24)", x.edge(5, 24), -5);
        due("edge(5, 25): below the last", x.edge(5, 25), -1);
        due("edge(5, 28)", x.edge(5, 28), -5);
        due("edge(5, 30)", x.edge(5, 30), -1);
        due("edge(5, 31)", x.edge(5, 31), -1);
        due("edge(5, 32)", x.edge(5, 32), -1);
        due("edge(5, -1)", x.edge(5, -1), -1);
        due("edge(5, -2)", x.edge(5, -2), -1);
        due("edge(5, MAX)", x.edge(5, Integer.MAX_VALUE), -1);
        due("edge(100, -1): the first named", x.edge(100, -1), -2);
        due("edge(-1, 0)", x.edge(-1, 0), -2);
        x.rule(0);
        due("edge(5, 13) joined", x.edge(5, 13), 0);
    }

    private static void promise12() {
        promise = 12;
        ContourTracer x = ringed();
        // LINE 0 is round all, LINE 1 round the hole, LINE 2 round the one POINT in it.
        int[][] due = {{3, 20, 0, -5, 1, 8 * 24 + 4, 25}, {19, 12, 1, 0, 0, 8 * 8 + 4, 9}, {35, 4, 2, 1, 1, 4, 1}};
        for (int line = 0; line < 3; line++) {
            for (int what = 0; what < 7; what++) {
                due("line(20, " + line + ", " + what + ")", x.line(20, line, what), due[line][what]);
            }
        }
        due("line(20, 3, 0)", x.line(20, 3, 0), -1);
        due("line(20, -1, 0)", x.line(20, -1, 0), -1);
        due("line(20, 0, 7)", x.line(20, 0, 7), -1);
        due("line(20, 0, -1)", x.line(20, 0, -1), -1);
        due("line(100, 9, 9): the first named", x.line(100, 9, 9), -2);
        due("line(-1, 0, 0)", x.line(-1, 0, 0), -2);
        due("line(71, 0, 0)", x.line(71, 0, 0), -1);
        due("line(41, 0, 0)", x.line(41, 0, 0), 35);
        due("line(41, 0, 3)", x.line(41, 0, 3), -5);
        // Two next to one another, none holds the other.
        x = made("size 3 5;point 6 9;point 8 9");
        due("line(1, 0, 6)", x.line(1, 0, 6), 1);
        due("line(1, 1, 2)", x.line(1, 1, 2), 0);
        due("line(1, 1, 3)", x.line(1, 1, 3), -5);
    }

    private static void promise13() {
        promise = 13;
        ContourTracer x = made("size 2 2;point 0 9;point 3 9;rule 1");
        int[][] parted = {{3, 8, 11, 10}, {13, 18, 21, 20}};
        for (int line = 0; line < 2; line++) {
            for (int i = 0; i < 4; i++) {
                due("goes(9, " + line + ", " + i + ")", x.goes(9, line, i), parted[line][i]);
            }
            due("goes(9, " + line + ", 4)", x.goes(9, line, 4), -5);
        }
        x.rule(0);
        int[] joined = {3, 8, 11, 18, 21, 20, 13, 10};
        for (int i = 0; i < 8; i++) {
            due("goes(9, 0, " + i + ") joined", x.goes(9, 0, i), joined[i]);
        }
        due("goes(9, 0, 8)", x.goes(9, 0, 8), -5);
        due("goes(9, 0, MAX)", x.goes(9, 0, Integer.MAX_VALUE), -5);
        due("goes(9, 1, 0)", x.goes(9, 1, 0), -1);
        due("goes(9, -1, 0)", x.goes(9, -1, 0), -1);
        due("goes(9, 0, -1)", x.goes(9, 0, -1), -1);
        due("goes(100, 5, -1): the first named", x.goes(100, 5, -1), -2);
        due("goes(-1, 0, 0)", x.goes(-1, 0, 0), -2);
    }

    private static void promise14() {
        promise = 14;
        ContourTracer x = ringed();
        int[] points = {0, 6, 11, 12, 13, 24};
        int[][] due = {{1, 1, 1, 1, 1, 1}, {0, 1, 1, 1, 1, 0}, {0, 0, 0, 1, 0, 0}};
        for (int line = 0; line < 3; line++) {
            for (int i = 0; i < points.length; i++) {
                due("holds(20, " + line + ", " + points[i] + ")", x.holds(20, line, points[i]), due[line][i]);
            }
        }
        due("holds(20, 3, 0)", x.holds(20, 3, 0), -1);
        due("holds(20, -1, 0)", x.holds(20, -1, 0), -1);
        due("holds(20, 0, 25)", x.holds(20, 0, 25), -1);
        due("holds(20, 0, -1)", x.holds(20, 0, -1), -1);
        due("holds(100, 9, 99): the first named", x.holds(100, 9, 99), -2);
        due("holds(-1, 0, 0)", x.holds(-1, 0, 0), -2);
    }

    private static void promise15() {
        promise = 15;
        ContourTracer x = ringed();
        alike("ways(20, 0)", walked(x, 20, 0), "ldddddrrrrruuuuullll");
        alike("ways(20, 1): a hole goes the other way round", walked(x, 20, 1), "rrrdddllluuu");
        alike("ways(20, 2)", walked(x, 20, 2), "ldru");
        due("ways(20, 2, 0)", x.ways(20, 2, 0), 'l');
        due("ways(20, 1, 0)", x.ways(20, 1, 0), 'r');
        due("ways(20, 2, 4)", x.ways(20, 2, 4), -5);
        due("ways(20, 3, 0)", x.ways(20, 3, 0), -1);
        due("ways(20, -1, 0)", x.ways(20, -1, 0), -1);
        due("ways(20, 0, -1)", x.ways(20, 0, -1), -1);
        due("ways(100, 9, -1): the first named", x.ways(100, 9, -1), -2);
        due("ways(-1, 0, 0)", x.ways(-1, 0, 0), -2);
        x = made("size 2 2;point 0 9;point 3 9");
        alike("ways(9, 0) joined", walked(x, 9, 0), "ldrdrulu");
    }

    private static void promise16() {
        promise = 16;
        ContourTracer x = checkered();
        alike("picture(50)", drawn(x, 50), ".#.#/#.#./.#.#");
        alike("picture(0)", drawn(x, 0), "####/####/####");
        alike("picture(61)", drawn(x, 61), "..../..../....");
        due("picture(50, 13)", x.picture(50, 13), '#');
        due("picture(50, 14): none behind the last row", x.picture(50, 14), -5);
        due("picture(50, MAX)", x.picture(50, Integer.MAX_VALUE), -5);
        due("picture(50, -1)", x.picture(50, -1), -1);
        due("picture(50, MIN)", x.picture(50, Integer.MIN_VALUE), -1);
        due("picture(100, -1): the first named", x.picture(100, -1), -2);
        due("picture(-1, 0)", x.picture(-1, 0), -2);
    }

    private static void promise17() {
        promise = 17;
        ContourTracer x = checkered();
        due("land(50, 11) ALL", x.land(50, 11), 0);
        due("land(50, 0)", x.land(50, 0), -5);
        x.rule(1);
        int[] points = {1, 3, 4, 6, 9, 11};
        for (int i = 0; i < points.length; i++) {
            due("land(50, " + points[i] + ") NONE", x.land(50, points[i]), i);
        }
        x.rule(3);
        // JOINED are SQUARES 6 (1 with 4), 8 (3 with 6), 12 (6 with 9): 1, 4 / 3, 6, 9, but 13 is not (6 with 11).
        int[] checked = {0, 1, 0, 1, 1, 2};
        for (int i = 0; i < points.length; i++) {
            due("land(50, " + points[i] + ") CHECKED", x.land(50, points[i]), checked[i]);
        }
        due("land(50, 12)", x.land(50, 12), -1);
        due("land(50, -1)", x.land(50, -1), -1);
        due("land(100, 12): the first named", x.land(100, 12), -2);
        due("land(-1, 0)", x.land(-1, 0), -2);
        // One LAND, though 0 and 2 hang together far below only.
        x = made("size 3 3;fill 0 6 9;fill 6 8 9;fill 2 8 9");
        due("land(9, 2)", x.land(9, 2), 0);
    }

    private static void promise18() {
        promise = 18;
        ContourTracer x = ringed();
        int[][] due = {{0, 16, 40, 1}, {12, 1, 70, 0}};
        for (int land = 0; land < 2; land++) {
            for (int what = 0; what < 4; what++) {
                due("landOf(20, " + land + ", " + what + ")", x.landOf(20, land, what), due[land][what]);
            }
        }
        due("landOf(20, 2, 0)", x.landOf(20, 2, 0), -1);
        due("landOf(20, -1, 0)", x.landOf(20, -1, 0), -1);
        due("landOf(20, 0, 4)", x.landOf(20, 0, 4), -1);
        due("landOf(20, 0, -1)", x.landOf(20, 0, -1), -1);
        due("landOf(100, 9, 9): the first named", x.landOf(100, 9, 9), -2);
        due("landOf(-1, 0, 0)", x.landOf(-1, 0, 0), -2);
        due("landOf(71, 0, 0)", x.landOf(71, 0, 0), -1);
        x = checkered();
        due("landOf(50, 0, 3): a hole between JOINED SADDLES", x.landOf(50, 0, 3), 1);
        due("landOf(50, 0, 0)", x.landOf(50, 0, 0), 1);
        due("landOf(0, 0, 2)", x.landOf(0, 0, 2), 60);
    }

    private static void promise19() {
        promise = 19;
        ContourTracer x = made("size 3 3;fill 0 8 10;point 0 50;point 2 40;point 1 30;point 8 60");
        due("pass(0, 2)", x.pass(0, 2), 30);
        due("pass(2, 0)", x.pass(2, 0), 30);
        due("pass(0, 8)", x.pass(0, 8), 10);
        due("pass(0, 0): its HEIGHT", x.pass(0, 0), 50);
        due("pass(0, 1)", x.pass(0, 1), 30);
        due("pass(0, 9)", x.pass(0, 9), -1);
        due("pass(9, 0)", x.pass(9, 0), -1);
        due("pass(-1, 0)", x.pass(-1, 0), -1);
        x.height(4, 70);
        due("pass(0, 8) over JOINED", x.pass(0, 8), 50);
        x.rule(1);
        due("pass(0, 8) by EDGES alone", x.pass(0, 8), 10);
        x.rule(2);
        // SQUARE of 70, 10, 60, 10 has 150 together, that of 50, 30, 70, 10 has 160.
        due("pass(0, 8) by MEAN", x.pass(0, 8), 37);
        x.rule(4);
        // By LEVEL 37: 33 * 23 (759) against 27 * 27 (729); by 38: 32 * 22 (704) against 28 * 28 (784).
        due("pass(4, 8) by CROSS", x.pass(4, 8), 37);
        x = new ContourTracer();
        due("pass(0, 35) flat", x.pass(0, 35), 0);
        x = made("fill 0 35 99");
        due("pass(0, 35) all 99", x.pass(0, 35), 99);
    }

    private static void promise20() {
        promise = 20;
        ContourTracer x = made("size 3 3;fill 0 8 10;point 0 50;point 2 40;point 1 30;point 8 60");
        due("stands(8): none is greater", x.stands(8), 60);
        due("stands(0)", x.stands(0), 40);
        due("stands(2)", x.stands(2), 10);
        due("stands(1)", x.stands(1), 0);
        due("stands(4)", x.stands(4), 0);
        due("stands(9)", x.stands(9), -1);
        due("stands(-1)", x.stands(-1), -1);
        x.height(0, 60);
        due("stands(0): as great is not greater", x.stands(0), 60);
        due("stands(8)", x.stands(8), 60);
        x.height(4, 61);
        due("stands(8) by JOINED", x.stands(8), 0);
        x.rule(1);
        due("stands(8) by PARTED", x.stands(8), 50);
    }

    private static void promise21() {
        promise = 21;
        ContourTracer x = made("size 3 3;fill 0 8 10;point 0 50;point 2 40;point 1 30;point 8 60");
        // LEVELS 0, 10: one; 20, 30: two (0, 1, 2 and 8); 40: three; 50: two (0 and 8); 60: one.
        due("tree(10, 0)", x.tree(10, 0), 1 + 1 + 2 + 2 + 3 + 2 + 1);
        due("tree(10, 1)", x.tree(10, 1), 3);
        due("tree(10, 2)", x.tree(10, 2), 2);
        // LEVELS 0, 50.
        due("tree(50, 0)", x.tree(50, 0), 3);
        due("tree(50, 1)", x.tree(50, 1), 2);
        due("tree(50, 2)", x.tree(50, 2), 1);
        due("tree(1, 0)", x.tree(1, 0), 11 + 20 * 2 + 10 * 3 + 10 * 2 + 10);
        due("tree(0, 3): the first named", x.tree(0, 3), -2);
        due("tree(51, 0)", x.tree(51, 0), -2);
        due("tree(1, 3)", x.tree(1, 3), -1);
        due("tree(1, -1)", x.tree(1, -1), -1);
        x = made("size 2 2;fill 0 3 99");
        due("tree(1, 0) up to 99", x.tree(1, 0), 100);
        due("tree(33, 0): 0, 33, 66, 99", x.tree(33, 0), 4);
        due("tree(33, 1): those of the last LEVEL are LEAVES", x.tree(33, 1), 1);
        due("tree(34, 0): 0, 34, 68", x.tree(34, 0), 3);
        due("tree(34, 1)", x.tree(34, 1), 1);
        x = checkered();
        x.rule(1);
        due("tree(50, 2): six in one", x.tree(50, 2), 1);
        due("tree(50, 1)", x.tree(50, 1), 6);
    }

    private static void promise22() {
        promise = 22;
        // VOLUME: a corner counts once, a rim twice, the middle four times.
        ContourTracer x = made("size 3 3;point 0 10;point 1 20;point 4 30");
        due("at(0, 6)", x.at(0, 6), 10 + 40 + 120);
        due("at(15, 6)", x.at(15, 6), 10 + 60);
        due("between(0, 15)", x.between(0, 15), 100);
        due("between(15, 0)", x.between(15, 0), 100);
        due("between(15, 15)", x.between(15, 15), 0);
        due("between(0, 99)", x.between(0, 99), 170);
        due("between(100, 0)", x.between(100, 0), -2);
        due("between(0, 100)", x.between(0, 100), -2);
        due("between(-1, 0)", x.between(-1, 0), -2);
        due("between(0, -1)", x.between(0, -1), -2);
    }

    private static void promise23() {
        promise = 23;
        ContourTracer x = made("size 2 2");
        due("see(4, 2): the first named", x.see(4, 2), -1);
        due("see(-2, 0)", x.see(-2, 0), -1);
        due("see(0, 2)", x.see(0, 2), -2);
        due("see(0, -1)", x.see(0, -1), -2);
        for (int i = 1; i <= 6; i++) {
            due("see(3, 1)", x.see(3, 1), i);
        }
        due("see(3, 1) once more", x.see(3, 1), -4);
        due("see(3, 2): BAD ahead of FULL", x.see(3, 2), -2);
        due("see(4, 1): NONE ahead of FULL", x.see(4, 1), -1);
        due("count(0)", x.count(0), 6);
        due("see(-1, 99)", x.see(-1, 99), 0);
        due("count(0)", x.count(0), 0);
        due("see(0, 0)", x.see(0, 0), 1);
    }

    private static void promise24() {
        promise = 24;
        ContourTracer x = made("size 3 3;point 0 30;point 1 50;point 8 99");
        due("fits(0) without SEEN", x.fits(0), 100);
        due("fits(1) without SEEN", x.fits(1), 0);
        x.see(1, 1);
        due("fits(0) 1 IN", x.fits(0), 51);
        due("fits(1) 1 IN", x.fits(1), 0);
        x.see(0, 0);
        due("fits(0) 0 OUT", x.fits(0), 20);
        due("fits(1) 0 OUT", x.fits(1), 31);
        x.see(8, 0);
        due("fits(0) never", x.fits(0), 0);
        due("fits(1) never", x.fits(1), -5);
        due("fits(2)", x.fits(2), -1);
        due("fits(-1)", x.fits(-1), -1);
        x.see(-1, 0);
        x.see(8, 1);
        due("fits(0) always", x.fits(0), 100);
        x.size(2, 2);
        due("fits(0) of a POINT that is no more", x.fits(0), 0);
        due("fits(1) of a POINT that is no more", x.fits(1), -5);
        x.see(-1, 0);
        x.size(3, 3);
        x.see(8, 0);
        x.size(2, 2);
        due("fits(0): OUT of a POINT that is no more", x.fits(0), 0);
        x.size(3, 3);
        due("fits(0): it is there again", x.fits(0), 99);
        due("fits(1): it is there again", x.fits(1), 1);
    }

    private static void promise25() {
        promise = 25;
        ContourTracer x = made("size 2 2;point 0 49;point 1 99;point 2 74");
        due("odds(0, 0)", x.odds(0, 0), 1);
        due("odds(0, 1)", x.odds(0, 1), 2);
        due("odds(1, 0)", x.odds(1, 0), 1);
        due("odds(1, 1)", x.odds(1, 1), 1);
        due("odds(2, 0)", x.odds(2, 0), 3);
        due("odds(2, 1)", x.odds(2, 1), 4);
        due("odds(3, 0)", x.odds(3, 0), 1);
        due("odds(3, 1)", x.odds(3, 1), 100);
        x.see(0, 0);
        due("odds(2, 0): all LEVELS, whatever was SEEN", x.odds(2, 0), 3);
        due("odds(4, 0)", x.odds(4, 0), NO);
        due("odds(-1, 0)", x.odds(-1, 0), NO);
        due("odds(0, 2)", x.odds(0, 2), NO);
        due("odds(0, -1)", x.odds(0, -1), NO);
    }

    private static void promise26() {
        promise = 26;
        ContourTracer x = made("size 2 2");
        due("mean(0) flat", x.mean(0), 1);
        due("mean(1) flat", x.mean(1), 100);
        x.height(0, 49);
        due("mean(0)", x.mean(0), 1);
        due("mean(1)", x.mean(1), 2);
        x.rule(1);
        x.height(3, 99);
        // One by LEVEL 0, two by 1 .. 49, one by 50 .. 99: 149.
        due("mean(0) two", x.mean(0), 149);
        due("mean(1) two", x.mean(1), 100);
        x.rule(2);
        // Together 148: JOINED by 1 .. 37, two by 38 .. 49: 112.
        due("mean(0) MEAN", x.mean(0), 28);
        due("mean(1) MEAN", x.mean(1), 25);
        due("mean(2)", x.mean(2), NO);
        due("mean(-1)", x.mean(-1), NO);
    }

    private static void promise27() {
        promise = 27;
        ContourTracer x = made("size 2 2");
        int[][] none = {{5, 0}, {-2, 0}, {0, 4}, {0, -1}, {1, 4}, {1, -1}, {Integer.MAX_VALUE, 0}};
        int[][] bad = {{2, 100}, {2, -1}, {3, 5}, {3, -1}, {4, 1}, {4, -1}};
        int[][] good = {{0, 0}, {0, 3}, {1, 3}, {2, 0}, {2, 99}, {3, 0}, {3, 4}, {4, 0}};
        for (int round = 0; round < 2; round++) {
            for (int[] e : none) {
                due("event(" + e[0] + ", " + e[1] + ")", x.event(e[0], e[1]), -1);
            }
            for (int[] e : bad) {
                due("event(" + e[0] + ", " + e[1] + ")", x.event(e[0], e[1]), -2);
            }
            for (int i = 0; i < good.length; i++) {
                due("event(" + good[i][0] + ", " + good[i][1] + ")", x.event(good[i][0], good[i][1]), round == 0 ? i + 1 : -4);
            }
            due("count(1)", x.count(1), 8);
        }
        due("event(-1, -99)", x.event(-1, -99), 0);
        due("count(1)", x.count(1), 0);
        due("event(4, 0)", x.event(4, 0), 1);
        due("of(0): it only may happen", x.of(0), 0);
    }

    private static void promise28() {
        promise = 28;
        ContourTracer x = made("size 2 2;point 0 30;point 3 95");
        due("after(30, 0) without EVENTS", x.after(30, 0), 1);
        due("after(30, 1) without EVENTS", x.after(30, 1), 1);
        due("after(30, 2) without EVENTS", x.after(30, 2), 65);
        x.event(3, 1);
        due("after(30, 0) PARTED", x.after(30, 0), 2);
        due("after(30, 1) PARTED", x.after(30, 1), 2);
        x.event(0, 0);
        x.event(0, 3);
        due("after(0, 2) raised", x.after(0, 2), 40 + 99);
        x.event(2, 50);
        due("after(0, 2) lowered", x.after(0, 2), 49);
        x.event(4, 0);
        due("after(0, 2) turned", x.after(0, 2), 99 + 99 + 99 + 50);
        x.event(1, 1);
        due("after(0, 2) levelled", x.after(0, 2), 99 + 99 + 50);
        due("after(99, 1)", x.after(99, 1), 1);
        due("of(0) stays", x.of(0), 30);
        due("told(2) stays", x.told(2), 0);
        due("at(30, 0) stays", x.at(30, 0), 1);
        due("after(100, 3): the first named", x.after(100, 3), -2);
        due("after(-1, 0)", x.after(-1, 0), -2);
        due("after(0, 3)", x.after(0, 3), -1);
        due("after(0, -1)", x.after(0, -1), -1);
        x = new ContourTracer();
        x.event(0, 35);
        x.event(1, 34);
        x.event(0, 0);
        x.size(2, 2);
        due("after(0, 2): POINTS that are no more", x.after(0, 2), 10);
        x.size(6, 6);
        due("after(0, 2): they are there again", x.after(0, 2), 20);
    }

    private static void promise29() {
        promise = 29;
        ContourTracer x = made("size 2 2");
        due("book(4, 100): the first named", x.book(4, 100), -1);
        due("book(-2, 0)", x.book(-2, 0), -1);
        due("book(0, 100)", x.book(0, 100), -2);
        due("book(0, -1)", x.book(0, -1), -2);
        for (int i = 1; i <= 8; i++) {
            due("book(3, 99)", x.book(3, 99), i);
        }
        due("book(3, 99) once more", x.book(3, 99), -4);
        due("book(3, 100): BAD ahead of FULL", x.book(3, 100), -2);
        due("book(4, 0): NONE ahead of FULL", x.book(4, 0), -1);
        due("count(2)", x.count(2), 8);
        due("book(-1, 500)", x.book(-1, 500), 0);
        due("count(2)", x.count(2), 0);
        due("of(3): a BOOK changes no HEIGHT", x.of(3), 0);
    }

    private static void promise30() {
        promise = 30;
        ContourTracer x = made("size 3 3;point 8 5");
        due("looked() at nothing", x.looked(), -5);
        x.book(0, 0);
        x.book(8, 5);
        due("looked() as booked", x.looked(), -5);
        x.book(1, 7);
        due("looked(): the third is other", x.looked(), 2);
        x.height(8, 6);
        due("looked(): the second is other", x.looked(), 1);
        x.height(8, 5);
        x.height(1, 7);
        due("looked() as booked again", x.looked(), -5);
        x.book(-1, 0);
        x.book(8, 0);
        x.size(2, 2);
        due("looked(): it isn't there", x.looked(), 0);
    }

    private static void promise31() {
        promise = 31;
        ContourTracer x = made("size 2 2;point 0 9;point 3 99");
        due("judge(6, 0)", x.judge(6, 0), -1);
        due("judge(-1, 0)", x.judge(-1, 0), -1);
        due("judge(0, 0): nothing", x.judge(0, 0), 100);
        due("judge(0, -1): nothing", x.judge(0, -1), 100);
        for (int sort = 1; sort <= 4; sort++) {
            x.tape(0, sort, 5);
            due("judge(0, 0) of sort " + sort, x.judge(0, 0), -12);
            due("judge(0, -1) of sort " + sort, x.judge(0, -1), -12);
        }
        x.tape(0, 0, 5);
        x.item(0, 1, 9);
        x.item(0, 4, 99);
        due("judge(0, 1)", x.judge(0, 1), -5);
        due("judge(0, 0)", x.judge(0, 0), 0);
        due("judge(0, -1)", x.judge(0, -1), 100);
        due("judge(0, 5)", x.judge(0, 5), 100);
        due("judge(0, 6)", x.judge(0, 6), 100);
        due("judge(0, MAX)", x.judge(0, Integer.MAX_VALUE), 100);
        due("judge(0, MIN)", x.judge(0, Integer.MIN_VALUE), 100);
        x.item(0, 2, 9);
        due("judge(0, 1): the second", x.judge(0, 1), 1);
        due("judge(0, 2): the third", x.judge(0, 2), 2);
        x.tape(0, 0, 4);
        x.item(0, 1, 9);
        due("judge(0, 1): ends", x.judge(0, 1), 103);
        due("judge(0, 3): other ahead of the end", x.judge(0, 3), 0);
        x.item(0, 0, 9 - 256);
        due("judge(0, 0): a byte is its lowest bits", x.judge(0, 0), 1);
        x.tape(0, 0, 0);
        due("judge(0, 0): no items", x.judge(0, 0), 100);
    }

    private static void promise32() {
        promise = 32;
        ContourTracer x = made("size 2 3;point 0 9;point 5 99");
        due("image()", x.image(), 108);
        due("of(0): nothing changes", x.of(0), 9);
        x.height(0, 0);
        due("image() anew", x.image(), 99);
        x.height(0, 50);
        due("undo(): the newest", x.undo(), 99);
        x = made("size 7 7;fill 0 48 99");
        due("image()", x.image(), 49 * 99);
    }

    private static void promise33() {
        promise = 33;
        ContourTracer x = made("size 2 3;point 0 9;point 5 99;rule 3");
        due("undo(): there is none", x.undo(), -3);
        x.see(0, 1);
        x.event(3, 1);
        x.event(0, 0);
        x.book(5, 99);
        x.image();
        due("at(9, 0)", x.at(9, 0), 2);
        read(x, "size 5 4;fill 0 19 20;rule 1");
        x.see(-1, 0);
        x.event(-1, 0);
        x.book(1, 1);
        x.feed('t');
        x.tape(2, 3, 4);
        x.item(2, 3, 77);
        due("undo()", x.undo(), 108);
        due("told(0)", x.told(0), 2);
        due("told(1)", x.told(1), 3);
        due("told(2)", x.told(2), 3);
        due("of(5)", x.of(5), 99);
        due("of(6)", x.of(6), -1);
        due("at(9, 0)", x.at(9, 0), 2);
        due("count(0)", x.count(0), 1);
        due("count(1)", x.count(1), 2);
        due("count(2)", x.count(2), 1);
        due("count(3): THE TEXT stays", x.count(3), 1);
        due("peek(2, 3): the TAPES stay", x.peek(2, 3), 77);
        due("fits(0)", x.fits(0), 10);
        due("looked()", x.looked(), -5);
        due("after(0, 2)", x.after(0, 2), 19 + 99);
        x.height(0, 1);
        due("undo() again", x.undo(), 108);
    }

    private static void promise34() {
        promise = 34;
        ContourTracer x = new ContourTracer();
        x.see(0, 0);
        x.event(4, 0);
        x.event(4, 0);
        x.book(0, 0);
        x.book(0, 0);
        x.book(0, 0);
        for (int i = 0; i < 4; i++) {
            x.feed('t');
        }
        for (int what = 0; what < 4; what++) {
            due("count(" + what + ")", x.count(what), what + 1);
        }
        due("count(4)", x.count(4), -2);
        due("count(-1)", x.count(-1), -2);
    }

    private static void promise35() {
        promise = 35;
        ContourTracer x = new ContourTracer();
        for (int t = 0; t < 6; t++) {
            due("tape(" + t + ", 2, 60)", x.tape(t, 2, 60), 1);
            due("peek(" + t + ", 59)", x.peek(t, 59), 0);
            due("peek(" + t + ", 60)", x.peek(t, 60), NO);
        }
        due("tape(6, 9, 99): the first named", x.tape(6, 9, 99), -1);
        due("tape(-1, 0, 0)", x.tape(-1, 0, 0), -1);
        due("tape(0, 5, -1): the first named", x.tape(0, 5, -1), -2);
        due("tape(0, -2, 0)", x.tape(0, -2, 0), -2);
        due("tape(0, 0, 61)", x.tape(0, 0, 61), -2);
        due("tape(0, 4, -1)", x.tape(0, 4, -1), -14);
        due("tape(0, 0, MIN)", x.tape(0, 0, Integer.MIN_VALUE), -14);
        due("peek(0, 59): nothing changed", x.peek(0, 59), 0);
        x.item(0, 5, 5);
        due("tape(0, 2, 6)", x.tape(0, 2, 6), 1);
        due("peek(0, 5): all 0", x.peek(0, 5), 0);
        due("tape(0, 2, 0)", x.tape(0, 2, 0), 1);
        due("peek(0, 0)", x.peek(0, 0), NO);
        due("item(0, 0, 1): a row without items is there", x.item(0, 0, 1), -13);
        due("tape(1, -1, -7)", x.tape(1, -1, -7), 1);
        due("tape(1, -1, 61)", x.tape(1, -1, 61), 1);
        due("item(1, 0, 1)", x.item(1, 0, 1), -11);
    }

    private static void promise36() {
        promise = 36;
        ContourTracer x = new ContourTracer();
        long v = 0x123456789ABCDEF0L;
        long[] cut = {(byte) v, (short) v, (int) v, v, 1};
        for (int sort = 0; sort < 5; sort++) {
            x.tape(sort, sort, 3);
            due("item(" + sort + ", 2, v)", x.item(sort, 2, v), 1);
            due("peek(" + sort + ", 2)", x.peek(sort, 2), cut[sort]);
            due("peek(" + sort + ", 1)", x.peek(sort, 1), 0);
            due("item(" + sort + ", 0, 0)", x.item(sort, 0, 0), 1);
            due("peek(" + sort + ", 0)", x.peek(sort, 0), 0);
            due("item(" + sort + ", 3, 1)", x.item(sort, 3, 1), -13);
            due("item(" + sort + ", -1, 1)", x.item(sort, -1, 1), -13);
        }
        x.item(0, 0, 200);
        due("peek(0, 0)", x.peek(0, 0), -56);
        x.item(4, 0, 1L << 40);
        due("peek(4, 0): whether it is not 0", x.peek(4, 0), 1);
        due("item(5, -1, 1): NOTHING ahead of PLACE", x.item(5, -1, 1), -11);
        due("item(6, 0, 1)", x.item(6, 0, 1), -1);
        due("item(-1, 0, 1)", x.item(-1, 0, 1), -1);
    }

    private static void promise37() {
        promise = 37;
        ContourTracer x = new ContourTracer();
        due("peek(0, 0): nothing there", x.peek(0, 0), NO);
        x.tape(0, 3, 2);
        x.item(0, 1, -9);
        due("peek(0, 1)", x.peek(0, 1), -9);
        due("peek(0, 2)", x.peek(0, 2), NO);
        due("peek(0, -1)", x.peek(0, -1), NO);
        due("peek(6, 0)", x.peek(6, 0), NO);
        due("peek(-1, 0)", x.peek(-1, 0), NO);
        due("peek(MIN, MAX)", x.peek(Integer.MIN_VALUE, Integer.MAX_VALUE), NO);
    }

    private static void promise38() {
        promise = 38;
        ContourTracer x = new ContourTracer();
        x.tape(0, 1, 6);
        x.tape(1, 1, 4);
        x.tape(2, 2, 4);
        for (int i = 0; i < 6; i++) {
            x.item(0, i, i + 1);
        }
        due("shift(0, 2, 1, 1, 3)", x.shift(0, 2, 1, 1, 3), 3);
        long[] copied = {0, 3, 4, 5};
        for (int i = 0; i < 4; i++) {
            due("peek(1, " + i + ")", x.peek(1, i), copied[i]);
        }
        due("shift(0, 0, 0, 2, 4) over itself", x.shift(0, 0, 0, 2, 4), 4);
        long[] over = {1, 2, 1, 2, 3, 4};
        for (int i = 0; i < 6; i++) {
            due("peek(0, " + i + ")", x.peek(0, i), over[i]);
        }
        due("shift(0, 1, 0, 0, 5) over itself", x.shift(0, 1, 0, 0, 5), 5);
        long[] back = {2, 1, 2, 3, 4, 4};
        for (int i = 0; i < 6; i++) {
            due("peek(0, " + i + ")", x.peek(0, i), back[i]);
        }
        due("shift(0, 6, 1, 4, 0): none, at the ends", x.shift(0, 6, 1, 4, 0), 0);
        due("shift(6, 0, 0, 0, 0)", x.shift(6, 0, 0, 0, 0), -1);
        due("shift(0, 0, -1, 0, 0)", x.shift(0, 0, -1, 0, 0), -1);
        due("shift(3, -1, 0, 0, 0): NOTHING", x.shift(3, -1, 0, 0, 0), -11);
        due("shift(0, -1, 3, 0, 0): NOTHING", x.shift(0, -1, 3, 0, 0), -11);
        due("shift(0, -1, 2, 0, 0): CAST", x.shift(0, -1, 2, 0, 0), -12);
        int[][] places = {{-1, 0, 1}, {0, -1, 1}, {0, 0, -1}, {0, 0, 5}, {3, 0, 4}, {0, 2, 3}, {7, 0, 0}, {0, 5, 0},
            {Integer.MAX_VALUE, 0, 1}, {0, 1, Integer.MAX_VALUE}, {1, 0, Integer.MAX_VALUE}, {0, 0, Integer.MIN_VALUE}};
        for (int[] p : places) {
            due("shift(0, " + p[0] + ", 1, " + p[1] + ", " + p[2] + ")", x.shift(0, p[0], 1, p[1], p[2]), -13);
        }
        for (int i = 0; i < 4; i++) {
            due("peek(1, " + i + "): nothing changed", x.peek(1, i), copied[i]);
        }
    }
}
