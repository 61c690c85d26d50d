import java.io.IOException;

/** Each sentence of the promises that names a boundary case, by a test of its own. Answers are worked out by hand. */
public final class BoundsTest extends Sentences {
    /** Numbers far beyond what any call takes, and just below 0. */
    private static final int[] FAR = {MIN, MIN + 1, -2, 1 << 20, MAX - 1, MAX};

    public static void main(String[] args) throws IOException {
        runAll(BoundsTest.class, "Promise");
    }

    /** 3 by 4: an island of 60 at POINT 5, one of 70 at POINT 11, else 20. */
    private static ContourTracer islands() {
        return made("size 3 4;fill 0 11 20;point 5 60;point 11 70");
    }

    /** Once with each LEVEL that there isn't. */
    private interface ByLevel {
        long answer(int level);
    }

    private static void badLevels(String call, ByLevel asked) {
        due(call + " by LEVEL -1", asked.answer(-1), BAD);
        due(call + " by LEVEL 100", asked.answer(100), BAD);
        for (int level : FAR) {
            due(call + " by LEVEL " + level, asked.answer(level), BAD);
        }
        due(call + " by LEVEL 0 is told", asked.answer(0) == BAD ? 1 : 0, 0);
        due(call + " by LEVEL 99 is told", asked.answer(99) == BAD ? 1 : 0, 0);
    }

    // ---- the ground

    @Says(in = "What it is", words = "An object is used for at most 512 calls after it has been made;")
    static void theCall512IsStillAnswered() {
        ContourTracer x = new ContourTracer();
        for (int call = 1; call <= 510; call++) {
            due("call " + call, x.height(call % 36, call % 100), call <= 36 ? 0 : (call - 36) % 100);
        }
        due("call 511", x.told(3), 99);
        due("call 512", x.of(35), 503 % 100);
        // As many changes as 512 calls can make: each read is of 5 bytes at least.
        x = new ContourTracer();
        x.size(7, 7);
        for (int i = 0; i < 85; i++) {
            feed(x, "turn");
            due("read() " + i, x.read(), 1);
        }
        due("call 427", x.at(99, 0), 1);
    }

    @Says(in = "Promise 1", words = "Six rows of six POINTS of HEIGHT 0, SADDLES all JOINED.")
    static void aNewObjectIsFlatAndHoldsNothingElse() {
        ContourTracer x = new ContourTracer();
        due("told(0)", x.told(0), 6);
        due("told(1)", x.told(1), 6);
        due("told(2)", x.told(2), 0);
        due("told(3)", x.told(3), 0);
        due("at(0, 3)", x.at(0, 3), 36);
        due("at(1, 3)", x.at(1, 3), 0);
        due("of(36)", x.of(36), NONE);
        for (int what = 0; what < 4; what++) {
            due("count(" + what + ")", x.count(what), 0);
        }
        due("undo()", x.undo(), STATE);
        due("looked()", x.looked(), LACKING);
        due("read()", x.read(), -10);
        x.height(0, 1);
        x.height(7, 1);
        due("JOINED", x.square(1, 8, 1), 1);
        ContourTracer y = new ContourTracer();
        due("another object is as new", y.told(3), 0);
    }

    @Says(in = "Promise 2", words = "HIGH, WIDE become others; all POINTS have HEIGHT 0:")
    static void sizeLevelsAllPoints() {
        ContourTracer x = made("fill 0 35 99;rule 2");
        x.see(0, 1);
        x.event(0, 0);
        x.book(0, 0);
        x.feed('t');
        x.tape(0, 0, 1);
        due("the same size", x.size(6, 6), 66);
        due("told(3)", x.told(3), 0);
        due("told(2): THE RULE stays", x.told(2), 2);
        for (int what = 0; what < 4; what++) {
            due("count(" + what + ") stays", x.count(what), 1);
        }
        due("peek(0, 0): TAPES stay", x.peek(0, 0), 0);
        x.height(35, 99);
        due("more", x.size(7, 7), 66);
        due("told(3)", x.told(3), 0);
        x.height(48, 99);
        due("fewer", x.size(2, 2), 77);
        due("told(3)", x.told(3), 0);
        x.size(7, 7);
        due("of(48): what was is gone", x.of(48), 0);
    }

    @Says(in = "Promise 2", words = "10 times HIGH and WIDE as they were.")
    static void sizeTellsWhatWas() {
        ContourTracer x = new ContourTracer();
        due("6 and 6", x.size(2, 2), 66);
        due("2 and 2", x.size(2, 7), 22);
        due("2 and 7", x.size(7, 2), 27);
        due("7 and 2", x.size(7, 7), 72);
        due("7 and 7", x.size(8, 8), BAD);
        due("7 and 7 still", x.size(7, 7), 77);
    }

    @Says(in = "Promise 2", words = "as they were. BAD.")
    static void sizeBad() {
        ContourTracer x = made("point 35 9");
        int[] no = {1, 8, 0, -1, 10, 258, MIN, MAX};
        for (int side : no) {
            due("size(" + side + ", 2)", x.size(side, 2), BAD);
            due("size(7, " + side + ")", x.size(7, side), BAD);
            due("size(" + side + ", " + side + ")", x.size(side, side), BAD);
        }
        due("of(35)", x.of(35), 9);
        due("told(0)", x.told(0), 6);
        due("told(1)", x.told(1), 6);
    }

    @Says(in = "Promise 3", words = "HEIGHT of a POINT becomes v: what it was.")
    static void heightOfTheFirstAndTheLastPoint() {
        ContourTracer x = new ContourTracer();
        x.size(2, 7);
        due("height(0, 99)", x.height(0, 99), 0);
        due("height(13, 99)", x.height(13, 99), 0);
        due("height(6, 98)", x.height(6, 98), 0);
        due("height(7, 1)", x.height(7, 1), 0);
        due("height(0, 0)", x.height(0, 0), 99);
        due("height(13, 99)", x.height(13, 99), 99);
        alike("heights", heights(x), "0 0 0 0 0 0 98 1 0 0 0 0 0 99");
    }

    @Says(in = "Promise 3", words = "NONE: point; BAD.")
    static void heightNoneAndBad() {
        ContourTracer x = new ContourTracer();
        x.size(2, 3);
        due("height(-1, 0)", x.height(-1, 0), NONE);
        due("height(6, 0)", x.height(6, 0), NONE);
        due("height(0, -1)", x.height(0, -1), BAD);
        due("height(0, 100)", x.height(0, 100), BAD);
        for (int far : FAR) {
            due("height(" + far + ", 0)", x.height(far, 0), NONE);
            due("height(0, " + far + ")", x.height(0, far), BAD);
            due("height(" + far + ", " + far + ")", x.height(far, far), NONE);
        }
        alike("heights", heights(x), "0 0 0 0 0 0");
    }

    @Says(in = "Promise 4", words = "THE RULE becomes of a KIND (0 .. 4): which it was of. NONE.")
    static void ruleFrom0To4() {
        ContourTracer x = new ContourTracer();
        due("rule(4)", x.rule(4), 0);
        due("rule(5)", x.rule(5), NONE);
        due("rule(-1)", x.rule(-1), NONE);
        for (int far : FAR) {
            due("rule(" + far + ")", x.rule(far), NONE);
        }
        due("rule(0)", x.rule(0), 4);
        due("rule(1)", x.rule(1), 0);
        due("rule(2)", x.rule(2), 1);
        due("rule(3)", x.rule(3), 2);
        due("rule(3)", x.rule(3), 3);
        due("told(2)", x.told(2), 3);
    }

    @Says(in = "Promise 5", words = "A sign (0 .. 127) comes behind THE TEXT's: how many it has.")
    static void feedFrom0To127() {
        ContourTracer x = new ContourTracer();
        for (int sign = 0; sign < 100; sign++) {
            due("feed(" + sign + ")", x.feed(sign), sign + 1);
        }
        due("read()", x.read(), -10);
        for (int sign = 100; sign <= 127; sign++) {
            due("feed(" + sign + ")", x.feed(sign), sign - 99);
        }
        due("read()", x.read(), -10);
        feed(x, "turn");
        due("signs come behind, in order", x.read(), 1);
    }

    @Says(in = "Promise 5", words = "how many it has. BAD; FULL.")
    static void feedBadAndFull() {
        ContourTracer x = new ContourTracer();
        due("feed(-1)", x.feed(-1), BAD);
        due("feed(128)", x.feed(128), BAD);
        for (int far : FAR) {
            due("feed(" + far + ")", x.feed(far), BAD);
        }
        due("feed('t' + 256)", x.feed('t' + 256), BAD);
        due("count(3)", x.count(3), 0);
        for (int i = 1; i <= 100; i++) {
            due("feed " + i, x.feed('t'), i);
        }
        due("feed 101", x.feed('t'), FULL);
        due("feed 102", x.feed('t'), FULL);
        due("feed(128)", x.feed(128), BAD);
        due("count(3)", x.count(3), 100);
        due("read(): the second byte", x.read(), -11);
        due("feed 1", x.feed('t'), 1);
    }

    @Says(in = "Promise 6", words = "THE TEXT, which is empty then (by a FAULT, too), is a set-up:")
    static void readEmptiesTheText() {
        ContourTracer x = new ContourTracer();
        due("read() of an empty TEXT", x.read(), -10);
        due("turn", read(x, "turn"), 1);
        due("count(3)", x.count(3), 0);
        due("read() once more", x.read(), -10);
        due("a FAULT", read(x, "turn;?"), -15);
        due("count(3)", x.count(3), 0);
        due("what is fed comes first again", read(x, "turn"), 1);
        feed(x, "tur");
        due("count(3) ahead of read", x.count(3), 3);
        due("it ends too early", x.read(), -13);
        due("count(3)", x.count(3), 0);
        due("feed('n')", x.feed('n'), 1);
        due("read()", x.read(), -10);
    }

    @Says(in = "Promise 6", words = "how many CLAUSES were done;")
    static void readTellsHowManyWereDone() {
        ContourTracer x = new ContourTracer();
        due("none was", read(x, "point 36 1"), 0);
        due("one of two", read(x, "point 36 1;point 35 1"), 1);
        due("all twelve", read(x, "turn;turn;turn;turn;turn;turn;turn;turn;turn;turn;turn;turn"), 12);
        due("none of twelve", read(x, "rule 9;rule 9;rule 9;rule 9;rule 9;rule 9;rule 9;rule 9;rule 9;rule 9;rule 9;rule 9"), 0);
        due("those that change nothing, too", read(x, "rule 0;point 0 0;fill 0 0 0;hill 0 0 0"), 4);
        due("the twelfth is done", read(x, "turn;turn;turn;turn;turn;turn;turn;turn;turn;turn;turn;rule 4"), 12);
        due("told(2)", x.told(2), 4);
        due("told(3): eleven turns", x.told(3), 99);
    }

    @Says(in = "Promise 6", words = "-10 less the FAULT.")
    static void readTellsTheFault() {
        ContourTracer x = new ContourTracer();
        due("at 0", read(x, "?"), -10);
        due("at 1", read(x, "t?"), -11);
        StringBuilder s = new StringBuilder();
        for (int i = 0; i < 9; i++) {
            s.append("point 0 99;");
        }
        due("at 99, the last byte", read(x, s + ";"), -109);
        due("at 99, the end", read(x, s.toString()), -109);
        due("at 100, the end", read(x, s + "t"), -110);
        alike("nothing was done", drawn(x, 1), "....../....../....../....../....../......");
    }

    @Says(in = "Promise 7", words = "HEIGHT of a POINT. NONE.")
    static void ofNone() {
        ContourTracer x = made("size 2 7;point 0 1;point 13 99");
        due("of(0)", x.of(0), 1);
        due("of(13)", x.of(13), 99);
        due("of(-1)", x.of(-1), NONE);
        due("of(14)", x.of(14), NONE);
        for (int far : FAR) {
            due("of(" + far + ")", x.of(far), NONE);
        }
        due("size(7, 7)", x.size(7, 7), 27);
        due("of(48)", x.of(48), 0);
        due("of(49)", x.of(49), NONE);
    }

    // ---- what is told

    @Says(in = "Promise 8", words = "3 the greatest HEIGHT, 4 the first POINT with it, 5 HALF, 6 BUSY, 7 how many LINES that has.")
    static void toldOfTheFirstAndTheLastPoint() {
        ContourTracer x = new ContourTracer();
        due("told(3) of 0", x.told(3), 0);
        due("told(4): all have it", x.told(4), 0);
        due("told(5)", x.told(5), 99);
        due("told(6)", x.told(6), 0);
        due("told(7)", x.told(7), 1);
        x.height(35, 99);
        due("told(3) of the last POINT", x.told(3), 99);
        due("told(4): the last POINT", x.told(4), 35);
        x.height(17, 99);
        due("told(4): the first of two", x.told(4), 17);
        x.height(0, 98);
        due("told(4): not one less", x.told(4), 17);
        x.height(0, 99);
        due("told(4): the first POINT", x.told(4), 0);
        due("told(7)", x.told(7), 3);
    }

    @Says(in = "Promise 8", words = "how many LINES that has. NONE.")
    static void toldNone() {
        ContourTracer x = new ContourTracer();
        due("told(-1)", x.told(-1), NONE);
        due("told(8)", x.told(8), NONE);
        for (int far : FAR) {
            due("told(" + far + ")", x.told(far), NONE);
        }
    }

    @Says(in = "Promise 9", words = "By a LEVEL how many LINES (what 0), OUTER ones (1), LANDS (2), POINTS that are IN (3), SADDLES (4), JOINED ones (5), VOLUME (6), the greatest DEPTH of a LINE (7;")
    static void atFromNoneToAll() {
        ContourTracer x = new ContourTracer();
        x.size(7, 7);
        int[] by0 = {1, 1, 1, 49, 0, 0, 0, 0};
        int[] by1 = {0, 0, 0, 0, 0, 0, 0, LACKING};
        for (int what = 0; what < 8; what++) {
            due("flat: at(0, " + what + ")", x.at(0, what), by0[what]);
            due("flat: at(1, " + what + ")", x.at(1, what), by1[what]);
            due("flat: at(99, " + what + ")", x.at(99, what), by1[what]);
        }
        x = made("size 7 7;fill 0 48 99");
        int[] by99 = {1, 1, 1, 49, 0, 0, 0, 0};
        for (int what = 0; what < 8; what++) {
            due("all 99: at(99, " + what + ")", x.at(99, what), by99[what]);
        }
        due("all 99: at(0, 6)", x.at(0, 6), 36 * 4 * 99);
    }

    @Says(in = "Promise 9", words = "the greatest DEPTH of a LINE (7; -5: there is none).")
    static void atDepthOfNoLine() {
        ContourTracer x = made("size 3 3;fill 0 8 50;point 4 0");
        due("a hole", x.at(50, 7), 1);
        due("none", x.at(51, 7), LACKING);
        due("one alone", x.at(0, 7), 0);
        x.height(4, 99);
        due("one that is higher", x.at(99, 7), 0);
    }

    @Says(in = "Promise 9", words = "BAD: level; NONE: what.")
    static void atBadAndNone() {
        ContourTracer x = islands();
        for (int what = 0; what < 8; what++) {
            int asked = what;
            badLevels("at what " + what, level -> x.at(level, asked));
        }
        due("at(60, -1)", x.at(60, -1), NONE);
        due("at(60, 8)", x.at(60, 8), NONE);
        for (int far : FAR) {
            due("at(60, " + far + ")", x.at(60, far), NONE);
            due("at(100, " + far + ")", x.at(100, far), BAD);
        }
    }

    @Says(in = "Promise 10", words = "CASE of a SQUARE (what 0), whether it is a SADDLE that is JOINED (1; 1, 0).")
    static void squareOfTheFirstAndTheLast() {
        ContourTracer x = made("size 2 7;point 0 9;point 13 9;point 8 9");
        due("the first: CASE", x.square(9, 0, 0), 4);
        due("the first: JOINED", x.square(9, 0, 1), 0);
        due("the last: CASE", x.square(9, 23, 0), 1);
        due("the last: JOINED", x.square(9, 23, 1), 0);
        due("a SADDLE: CASE", x.square(9, 9, 0), 5);
        due("a SADDLE: JOINED", x.square(9, 9, 1), 1);
        x.rule(1);
        due("a SADDLE: PARTED", x.square(9, 9, 1), 0);
        due("a SADDLE no more", x.square(10, 9, 1), 0);
        due("all IN", x.square(0, 9, 0), 15);
        due("all OUT", x.square(10, 9, 0), 0);
    }

    @Says(in = "Promise 10", words = "BAD: level; NONE: square, what.")
    static void squareBadAndNone() {
        ContourTracer x = islands();
        badLevels("square", level -> x.square(level, 0, 0));
        badLevels("square, JOINED", level -> x.square(level, 0, 1));
        due("square(60, -1, 0)", x.square(60, -1, 0), NONE);
        due("square(60, 20, 0)", x.square(60, 20, 0), NONE);
        due("square(60, 20, 1)", x.square(60, 20, 1), NONE);
        due("square(60, 0, -1)", x.square(60, 0, -1), NONE);
        due("square(60, 0, 2)", x.square(60, 0, 2), NONE);
        for (int far : FAR) {
            due("square(60, " + far + ", 0)", x.square(60, far, 0), NONE);
            due("square(60, " + far + ", 1)", x.square(60, far, 1), NONE);
            due("square(60, 0, " + far + ")", x.square(60, 0, far), NONE);
            due("square(100, " + far + ", " + far + ")", x.square(100, far, far), BAD);
        }
        x.size(7, 7);
        due("the last of 7 by 7", x.square(0, 63, 0), 1);
        due("one more", x.square(0, 64, 0), NONE);
    }

    @Says(in = "Promise 11", words = "The LINE that goes over an EDGE; -5: it isn't CROSSED.")
    static void edgeNotCrossed() {
        ContourTracer x = made("size 2 2;point 0 9;point 3 9;rule 1");
        due("the first EDGE", x.edge(9, 0), LACKING);
        due("the first that is CROSSED", x.edge(9, 3), 0);
        due("the last that is CROSSED", x.edge(9, 21), 1);
        due("the last EDGE", x.edge(9, 28), LACKING);
        due("between two that are OUT", x.edge(9, 1), LACKING);
        due("no LINE at all", x.edge(10, 3), LACKING);
        due("between two that are IN", x.edge(0, 10), LACKING);
    }

    @Says(in = "Promise 11", words = "BAD: level; NONE: no EDGE has that NUMBER.")
    static void edgeBadAndNone() {
        ContourTracer x = made("size 2 2");
        badLevels("edge", level -> x.edge(level, 0));
        // Four rows of four PLACES: 3, 7, 11, 15 end a row, 12 .. 15 are the lowest ones.
        int[] none = {-1, 6, 14, 22, 30, 25, 27, 29, 31, 32, 33};
        for (int edge : none) {
            due("edge(0, " + edge + ")", x.edge(0, edge), NONE);
            due("edge(100, " + edge + ")", x.edge(100, edge), BAD);
        }
        int[] there = {0, 4, 7, 8, 15, 16, 23, 24, 26, 28};
        for (int edge : there) {
            due("edge(1, " + edge + ")", x.edge(1, edge), LACKING);
        }
        for (int far : FAR) {
            due("edge(0, " + far + ")", x.edge(0, far), NONE);
        }
        x.size(7, 7);
        due("the last of 7 by 7", x.edge(1, 2 * 79), LACKING);
        due("one more", x.edge(1, 2 * 79 + 1), NONE);
        due("two more", x.edge(1, 2 * 80), NONE);
    }

    // ---- lines

    @Says(in = "Promise 12", words = "Of a LINE its least EDGE (what 0), LENGTH (1), DEPTH (2), PARENT (3; -5), whether it is OUTER (4; 1, 0), AREA (5), how many POINTS it HOLDS (6).")
    static void lineOfOnePointAndOfAll() {
        ContourTracer x = new ContourTracer();
        x.size(7, 7);
        x.height(48, 1);
        int[] one = {2 * (9 * 6 + 7) + 1, 4, 0, LACKING, 1, 4, 1};
        int[] all = {3, 28, 0, LACKING, 1, 8 * 49 - 4, 49};
        for (int what = 0; what < 7; what++) {
            due("one POINT: line(1, 0, " + what + ")", x.line(1, 0, what), one[what]);
            due("all: line(0, 0, " + what + ")", x.line(0, 0, what), all[what]);
        }
        x = ground("###/#.#/###");
        int[] hole = {2 * 7 + 1, 4, 1, 0, 0, 4, 1};
        for (int what = 0; what < 7; what++) {
            due("a hole: line(50, 1, " + what + ")", x.line(50, 1, what), hole[what]);
        }
    }

    @Says(in = "Promise 12", words = "BAD: level; NONE: line, what.")
    static void lineBadAndNone() {
        ContourTracer x = islands();
        due("the last LINE", x.line(60, 1, 1), 4);
        for (int what = 0; what < 7; what++) {
            int asked = what;
            badLevels("line, what " + what, level -> x.line(level, 0, asked));
            due("line(60, 2, " + what + ")", x.line(60, 2, what), NONE);
            due("line(60, -1, " + what + ")", x.line(60, -1, what), NONE);
            due("line(71, 0, " + what + "): no LINES", x.line(71, 0, what), NONE);
        }
        due("line(60, 0, -1)", x.line(60, 0, -1), NONE);
        due("line(60, 0, 7)", x.line(60, 0, 7), NONE);
        for (int far : FAR) {
            due("line(60, " + far + ", 0)", x.line(60, far, 0), NONE);
            due("line(60, 0, " + far + ")", x.line(60, 0, far), NONE);
            due("line(-1, " + far + ", " + far + ")", x.line(-1, far, far), BAD);
        }
    }

    @Says(in = "Promise 13", words = "The i-th EDGE of a LINE, from 0, as it goes; -5: it has not as many.")
    static void goesToTheLastEdge() {
        ContourTracer x = islands();
        alike("LINE 0", edges(x, 60, 0), "17 26 29 28");
        alike("LINE 1, the last POINT", edges(x, 60, 1), "33 42 45 44");
        due("goes(60, 0, 4): not the next LINE's", x.goes(60, 0, 4), LACKING);
        due("goes(60, 1, 4)", x.goes(60, 1, 4), LACKING);
        due("goes(60, 1, MAX)", x.goes(60, 1, MAX), LACKING);
        due("goes(60, 0, MAX)", x.goes(60, 0, MAX), LACKING);
        due("round all: the last", x.goes(0, 0, 13), 5);
        due("round all: behind it", x.goes(0, 0, 14), LACKING);
    }

    @Says(in = "Promise 13", words = "BAD: level; NONE: line, i below 0.")
    static void goesBadAndNone() {
        ContourTracer x = islands();
        badLevels("goes", level -> x.goes(level, 0, 0));
        due("goes(60, 2, 0)", x.goes(60, 2, 0), NONE);
        due("goes(60, 2, MAX): no LINE, so no EDGES", x.goes(60, 2, MAX), NONE);
        due("goes(60, -1, 0)", x.goes(60, -1, 0), NONE);
        due("goes(71, 0, 0)", x.goes(71, 0, 0), NONE);
        due("goes(60, 0, -1)", x.goes(60, 0, -1), NONE);
        due("goes(60, 1, -1): not the LINE ahead's", x.goes(60, 1, -1), NONE);
        due("goes(60, 0, MIN)", x.goes(60, 0, MIN), NONE);
        for (int far : FAR) {
            due("goes(60, " + far + ", 0)", x.goes(60, far, 0), NONE);
        }
    }

    @Says(in = "Promise 14", words = "Whether a LINE HOLDS a POINT (1, 0).")
    static void holdsTheFirstAndTheLastPoint() {
        ContourTracer x = islands();
        due("round all: the first POINT", x.holds(0, 0, 0), 1);
        due("round all: the last POINT", x.holds(0, 0, 11), 1);
        due("round one: it", x.holds(60, 1, 11), 1);
        due("round one: its left neighbour", x.holds(60, 1, 10), 0);
        due("round one: the one above", x.holds(60, 1, 7), 0);
        due("round one: a POINT of another LINE", x.holds(60, 1, 5), 0);
        due("round one: the first POINT of its row", x.holds(60, 1, 8), 0);
    }

    @Says(in = "Promise 14", words = "BAD: level; NONE: line, point.")
    static void holdsBadAndNone() {
        ContourTracer x = islands();
        badLevels("holds", level -> x.holds(level, 0, 0));
        due("holds(60, 2, 0)", x.holds(60, 2, 0), NONE);
        due("holds(60, -1, 0)", x.holds(60, -1, 0), NONE);
        due("holds(71, 0, 0)", x.holds(71, 0, 0), NONE);
        due("holds(60, 0, -1)", x.holds(60, 0, -1), NONE);
        due("holds(60, 0, 12)", x.holds(60, 0, 12), NONE);
        for (int far : FAR) {
            due("holds(60, " + far + ", 0)", x.holds(60, far, 0), NONE);
            due("holds(60, 0, " + far + ")", x.holds(60, 0, far), NONE);
        }
    }

    @Says(in = "Promise 15", words = "Sign i of WAYS of a LINE (its byte); -5: there are not as many.")
    static void waysToTheLastSign() {
        ContourTracer x = islands();
        int[] due = {108, 100, 114, 117};
        for (int i = 0; i < 4; i++) {
            due("ways(60, 0, " + i + ")", x.ways(60, 0, i), due[i]);
            due("ways(60, 1, " + i + ")", x.ways(60, 1, i), due[i]);
        }
        due("ways(60, 0, 4)", x.ways(60, 0, 4), LACKING);
        due("ways(60, 1, 4)", x.ways(60, 1, 4), LACKING);
        due("ways(60, 1, MAX)", x.ways(60, 1, MAX), LACKING);
        alike("round all", walked(x, 0, 0), "ldddrrrruuulll");
    }

    @Says(in = "Promise 15", words = "BAD: level; NONE: line, i below 0.")
    static void waysBadAndNone() {
        ContourTracer x = islands();
        badLevels("ways", level -> x.ways(level, 0, 0));
        due("ways(60, 2, 0)", x.ways(60, 2, 0), NONE);
        due("ways(60, 2, MAX): no LINE, so no signs", x.ways(60, 2, MAX), NONE);
        due("ways(60, -1, 0)", x.ways(60, -1, 0), NONE);
        due("ways(71, 0, 0)", x.ways(71, 0, 0), NONE);
        due("ways(60, 0, -1)", x.ways(60, 0, -1), NONE);
        due("ways(60, 1, -1)", x.ways(60, 1, -1), NONE);
        due("ways(60, 0, MIN)", x.ways(60, 0, MIN), NONE);
        for (int far : FAR) {
            due("ways(60, " + far + ", 0)", x.ways(60, far, 0), NONE);
        }
    }

    @Says(in = "Promise 16", words = "Sign i of PICTURE (its byte); -5: there are not as many.")
    static void pictureToTheLastSign() {
        ContourTracer x = islands();
        due("picture(60, 0)", x.picture(60, 0), 46);
        due("picture(60, 4)", x.picture(60, 4), 47);
        due("picture(60, 6)", x.picture(60, 6), 35);
        due("picture(60, 9)", x.picture(60, 9), 47);
        due("picture(60, 13)", x.picture(60, 13), 35);
        due("picture(60, 14)", x.picture(60, 14), LACKING);
        due("picture(60, 15)", x.picture(60, 15), LACKING);
        due("picture(60, MAX)", x.picture(60, MAX), LACKING);
        x.size(7, 7);
        due("7 by 7: the last", x.picture(0, 54), 35);
        due("7 by 7: behind it", x.picture(0, 55), LACKING);
    }

    @Says(in = "Promise 16", words = "BAD: level; NONE: i below 0.")
    static void pictureBadAndNone() {
        ContourTracer x = islands();
        badLevels("picture", level -> x.picture(level, 0));
        due("picture(60, -1)", x.picture(60, -1), NONE);
        due("picture(60, -2)", x.picture(60, -2), NONE);
        due("picture(60, MIN)", x.picture(60, MIN), NONE);
        due("picture(100, -1)", x.picture(100, -1), BAD);
        due("picture(-1, MAX)", x.picture(-1, MAX), BAD);
    }

    // ---- lands

    @Says(in = "Promise 17", words = "The LAND that a POINT is of; -5: it is OUT.")
    static void landOfAPointThatIsOut() {
        ContourTracer x = islands();
        due("just IN", x.land(60, 5), 0);
        due("just OUT", x.land(61, 5), LACKING);
        due("the last POINT", x.land(60, 11), 1);
        due("the last POINT alone", x.land(61, 11), 0);
        due("the first POINT is OUT", x.land(21, 0), LACKING);
        due("the first POINT is IN", x.land(20, 0), 0);
        due("all are IN", x.land(0, 11), 0);
    }

    @Says(in = "Promise 17", words = "BAD: level; NONE: point.")
    static void landBadAndNone() {
        ContourTracer x = islands();
        badLevels("land", level -> x.land(level, 11));
        due("land(60, -1)", x.land(60, -1), NONE);
        due("land(60, 12)", x.land(60, 12), NONE);
        for (int far : FAR) {
            due("land(60, " + far + ")", x.land(60, far), NONE);
            due("land(100, " + far + ")", x.land(100, far), BAD);
        }
    }

    @Says(in = "Promise 18", words = "Of a LAND its least POINT (what 0), SIZE (1), TOP (2), HOLES (3).")
    static void landOfOnePointAndOfAll() {
        ContourTracer x = islands();
        int[][] due = {{5, 1, 60, 0}, {11, 1, 70, 0}};
        int[] all = {0, 12, 70, 0};
        for (int what = 0; what < 4; what++) {
            due("landOf(60, 0, " + what + ")", x.landOf(60, 0, what), due[0][what]);
            due("landOf(60, 1, " + what + ")", x.landOf(60, 1, what), due[1][what]);
            due("landOf(0, 0, " + what + ")", x.landOf(0, 0, what), all[what]);
        }
        due("a hole", ground("###/#.#/###").landOf(50, 0, 3), 1);
    }

    @Says(in = "Promise 18", words = "BAD: level; NONE: land, what.")
    static void landOfBadAndNone() {
        ContourTracer x = islands();
        for (int what = 0; what < 4; what++) {
            int asked = what;
            badLevels("landOf, what " + what, level -> x.landOf(level, 0, asked));
            due("landOf(60, 2, " + what + ")", x.landOf(60, 2, what), NONE);
            due("landOf(60, -1, " + what + ")", x.landOf(60, -1, what), NONE);
            due("landOf(71, 0, " + what + "): no LANDS", x.landOf(71, 0, what), NONE);
        }
        due("landOf(60, 0, -1)", x.landOf(60, 0, -1), NONE);
        due("landOf(60, 0, 4)", x.landOf(60, 0, 4), NONE);
        for (int far : FAR) {
            due("landOf(60, " + far + ", 0)", x.landOf(60, far, 0), NONE);
            due("landOf(60, 0, " + far + ")", x.landOf(60, 0, far), NONE);
        }
        ContourTracer y = ground("#.#.#.#/......./#.#.#.#/......./#.#.#.#/......./#.#.#.#");
        due("the last of 16", y.landOf(50, 15, 0), 48);
        due("one more", y.landOf(50, 16, 0), NONE);
    }

    @Says(in = "Promise 19", words = "PASS. NONE: either.")
    static void passNone() {
        ContourTracer x = islands();
        due("pass(5, 11)", x.pass(5, 11), 20);
        due("pass(0, 12)", x.pass(0, 12), NONE);
        due("pass(12, 0)", x.pass(12, 0), NONE);
        due("pass(12, 12): the same", x.pass(12, 12), NONE);
        due("pass(0, -1)", x.pass(0, -1), NONE);
        due("pass(-1, 0)", x.pass(-1, 0), NONE);
        due("pass(-1, -1): the same", x.pass(-1, -1), NONE);
        due("pass(11, 11): the last POINT", x.pass(11, 11), 70);
        for (int far : FAR) {
            due("pass(0, " + far + ")", x.pass(0, far), NONE);
            due("pass(" + far + ", 0)", x.pass(far, 0), NONE);
        }
    }

    @Says(in = "Promise 20", words = "By how much a POINT OUT STANDS. NONE.")
    static void standsNone() {
        ContourTracer x = islands();
        due("stands(0): by nothing", x.stands(0), 0);
        due("stands(5)", x.stands(5), 40);
        due("stands(11): the last POINT", x.stands(11), 70);
        due("stands(-1)", x.stands(-1), NONE);
        due("stands(12)", x.stands(12), NONE);
        for (int far : FAR) {
            due("stands(" + far + ")", x.stands(far), NONE);
        }
    }

    @Says(in = "Promise 21", words = "THE TREE: what 0 NODES, 1 LEAVES, 2 FORKS. BAD: step; NONE: what.")
    static void treeBadAndNone() {
        ContourTracer x = islands();
        // By 50: one by LEVEL 0, two by LEVEL 50.
        due("tree(50, 0)", x.tree(50, 0), 3);
        due("tree(50, 1)", x.tree(50, 1), 2);
        due("tree(50, 2)", x.tree(50, 2), 1);
        // By 1: one by 0 .. 20, two by 21 .. 60, one by 61 .. 70.
        due("tree(1, 0)", x.tree(1, 0), 21 + 80 + 10);
        due("tree(1, 1)", x.tree(1, 1), 2);
        due("tree(1, 2)", x.tree(1, 2), 1);
        for (int what = 0; what < 3; what++) {
            due("tree(0, " + what + ")", x.tree(0, what), BAD);
            due("tree(51, " + what + ")", x.tree(51, what), BAD);
            due("tree(-1, " + what + ")", x.tree(-1, what), BAD);
            for (int far : FAR) {
                due("tree(" + far + ", " + what + ")", x.tree(far, what), BAD);
            }
        }
        due("tree(1, -1)", x.tree(1, -1), NONE);
        due("tree(50, 3)", x.tree(50, 3), NONE);
        for (int far : FAR) {
            due("tree(1, " + far + ")", x.tree(1, far), NONE);
            due("tree(0, " + far + ")", x.tree(0, far), BAD);
        }
    }

    @Says(in = "Promise 22", words = "VOLUME of the lesser of two LEVELS less that of the other one. BAD: either.")
    static void betweenFirstAndLastLevel() {
        ContourTracer x = made("size 2 2;fill 0 3 99");
        due("between(0, 99)", x.between(0, 99), 396);
        due("between(99, 0)", x.between(99, 0), 396);
        due("between(98, 99)", x.between(98, 99), 4);
        due("between(99, 99)", x.between(99, 99), 0);
        due("between(0, 0)", x.between(0, 0), 0);
        badLevels("between, the first", level -> x.between(level, 50));
        badLevels("between, the second", level -> x.between(50, level));
        badLevels("between, both", level -> x.between(level, level));
    }

    // ---- seen, odds

    @Says(in = "Promise 23", words = "What is SEEN comes: how many there are (point -1: none then, 0, whatever the rest is).")
    static void seeNoneThen() {
        ContourTracer x = made("size 2 2");
        due("none was", x.see(-1, 0), 0);
        due("see(3, 1)", x.see(3, 1), 1);
        due("see(3, 1) once more comes, too", x.see(3, 1), 2);
        due("see(-1, 2)", x.see(-1, 2), 0);
        due("count(0)", x.count(0), 0);
        for (int far : FAR) {
            x.see(0, 1);
            due("see(-1, " + far + ")", x.see(-1, far), 0);
            due("count(0)", x.count(0), 0);
        }
        for (int i = 1; i <= 6; i++) {
            due("see(0, 0)", x.see(0, 0), i);
        }
        due("of six, see(-1, 0)", x.see(-1, 0), 0);
        due("the first again", x.see(0, 0), 1);
    }

    @Says(in = "Promise 23", words = "NONE: point; BAD: is (0, 1); FULL: 6.")
    static void seeRefused() {
        ContourTracer x = made("size 2 2;point 0 9");
        due("see(-2, 0)", x.see(-2, 0), NONE);
        due("see(4, 0)", x.see(4, 0), NONE);
        due("see(0, -1)", x.see(0, -1), BAD);
        due("see(0, 2)", x.see(0, 2), BAD);
        for (int far : FAR) {
            due("see(" + far + ", 0)", x.see(far, 0), NONE);
            due("see(0, " + far + ")", x.see(0, far), BAD);
        }
        due("count(0)", x.count(0), 0);
        for (int i = 1; i <= 6; i++) {
            due("see(0, 1)", x.see(0, 1), i);
        }
        due("the seventh", x.see(0, 0), FULL);
        due("the eighth", x.see(3, 1), FULL);
        due("count(0)", x.count(0), 6);
        due("fits(0)", x.fits(0), 10);
    }

    @Says(in = "Promise 24", words = "FITS: what 0 how many, 1 the least (-5). NONE.")
    static void fitsNone() {
        ContourTracer x = made("size 2 2;point 0 99");
        due("fits(-1)", x.fits(-1), NONE);
        due("fits(2)", x.fits(2), NONE);
        for (int far : FAR) {
            due("fits(" + far + ")", x.fits(far), NONE);
        }
        due("all", x.fits(0), 100);
        due("the least", x.fits(1), 0);
        x.see(0, 0);
        due("none", x.fits(0), 0);
        due("there is no least", x.fits(1), LACKING);
        due("fits(2) if none fits", x.fits(2), NONE);
    }

    @Says(in = "Promise 24", words = "(What is SEEN of a POINT that is no more is not so.)")
    static void fitsOfAPointThatIsNoMore() {
        ContourTracer x = made("size 3 3");
        x.see(8, 0);
        due("the last POINT", x.fits(0), 99);
        x.size(2, 4);
        due("OUT: it is no more", x.fits(0), 0);
        due("OUT: the least", x.fits(1), LACKING);
        x.see(-1, 0);
        x.size(3, 3);
        x.see(8, 1);
        due("IN by LEVEL 0", x.fits(0), 1);
        x.size(2, 4);
        due("IN: it is no more", x.fits(0), 0);
        due("IN: the least", x.fits(1), LACKING);
        x.see(0, 1);
        due("another one doesn't help", x.fits(0), 0);
        x.see(-1, 0);
        x.see(7, 1);
        x.size(2, 4);
        due("the last POINT still is", x.fits(0), 1);
        x.size(2, 3);
        x.see(0, 0);
        due("SEEN behind it doesn't help", x.fits(0), 0);
    }

    @Says(in = "Promise 25", words = "ODDS; part 0 above, 1 below the line. NO: point, part.")
    static void oddsNo() {
        ContourTracer x = made("size 2 2;point 3 74");
        due("odds(3, 0)", x.odds(3, 0), 3);
        due("odds(3, 1)", x.odds(3, 1), 4);
        due("odds(-1, 0)", x.odds(-1, 0), NO);
        due("odds(4, 0)", x.odds(4, 0), NO);
        due("odds(4, 1)", x.odds(4, 1), NO);
        due("odds(3, -1)", x.odds(3, -1), NO);
        due("odds(3, 2)", x.odds(3, 2), NO);
        for (int far : FAR) {
            due("odds(" + far + ", 0)", x.odds(far, 0), NO);
            due("odds(3, " + far + ")", x.odds(3, far), NO);
        }
    }

    @Says(in = "Promise 26", words = "MEAN; part likewise. NO: part.")
    static void meanNo() {
        ContourTracer x = new ContourTracer();
        x.height(0, 49);
        due("mean(0)", x.mean(0), 1);
        due("mean(1)", x.mean(1), 2);
        due("mean(-1)", x.mean(-1), NO);
        due("mean(2)", x.mean(2), NO);
        for (int far : FAR) {
            due("mean(" + far + ")", x.mean(far), NO);
        }
    }

    // ---- events, books

    @Says(in = "Promise 27", words = "A row comes to EVENTS: how many there are (what -1: none then, 0, whatever the rest is).")
    static void eventNoneThen() {
        ContourTracer x = made("size 2 2");
        due("none was", x.event(-1, 0), 0);
        due("event(0, 3)", x.event(0, 3), 1);
        due("event(0, 3) once more comes, too", x.event(0, 3), 2);
        due("event(-1, -1)", x.event(-1, -1), 0);
        due("after(0, 2)", x.after(0, 2), 0);
        for (int far : FAR) {
            x.event(0, 0);
            due("event(-1, " + far + ")", x.event(-1, far), 0);
            due("count(1)", x.count(1), 0);
        }
        for (int i = 1; i <= 8; i++) {
            due("event(4, 0)", x.event(4, 0), i);
        }
        due("of eight, event(-1, 99)", x.event(-1, 99), 0);
        due("the first again", x.event(4, 0), 1);
    }

    @Says(in = "Promise 27", words = "NONE: what (0 .. 4), POINT n;")
    static void eventNone() {
        ContourTracer x = made("size 2 2");
        due("event(-2, 0)", x.event(-2, 0), NONE);
        due("event(5, 0)", x.event(5, 0), NONE);
        for (int what = 0; what < 2; what++) {
            due("event(" + what + ", -1)", x.event(what, -1), NONE);
            due("event(" + what + ", 4)", x.event(what, 4), NONE);
            for (int far : FAR) {
                due("event(" + what + ", " + far + ")", x.event(what, far), NONE);
            }
        }
        for (int far : FAR) {
            due("event(" + far + ", 0)", x.event(far, 0), NONE);
            due("event(" + far + ", " + far + ")", x.event(far, far), NONE);
        }
        due("count(1)", x.count(1), 0);
        due("event(0, 3)", x.event(0, 3), 1);
        due("event(1, 0)", x.event(1, 0), 2);
    }

    @Says(in = "Promise 27", words = "BAD: n by the others (3: 0 .. 4; 4: 0);")
    static void eventBad() {
        ContourTracer x = made("size 2 2");
        due("event(2, -1)", x.event(2, -1), BAD);
        due("event(2, 100)", x.event(2, 100), BAD);
        due("event(3, -1)", x.event(3, -1), BAD);
        due("event(3, 5)", x.event(3, 5), BAD);
        due("event(4, -1)", x.event(4, -1), BAD);
        due("event(4, 1)", x.event(4, 1), BAD);
        for (int what = 2; what < 5; what++) {
            for (int far : FAR) {
                due("event(" + what + ", " + far + ")", x.event(what, far), BAD);
            }
        }
        due("count(1)", x.count(1), 0);
        due("event(2, 0)", x.event(2, 0), 1);
        due("event(2, 99)", x.event(2, 99), 2);
        due("event(3, 0)", x.event(3, 0), 3);
        due("event(3, 4)", x.event(3, 4), 4);
        due("event(4, 0)", x.event(4, 0), 5);
    }

    @Says(in = "Promise 27", words = "FULL: 8.")
    static void eventFull() {
        ContourTracer x = made("size 2 2");
        for (int i = 1; i <= 8; i++) {
            due("event(0, 0)", x.event(0, 0), i);
        }
        due("the ninth", x.event(0, 0), FULL);
        due("the ninth, turned", x.event(4, 0), FULL);
        due("NONE ahead of FULL", x.event(0, 4), NONE);
        due("BAD ahead of FULL", x.event(4, 1), BAD);
        due("count(1)", x.count(1), 8);
        due("after(0, 2)", x.after(0, 2), 80);
    }

    @Says(in = "Promise 28", words = "AFTER by a LEVEL: what 0 how many LINES, 1 how many LANDS, 2 VOLUME.")
    static void afterOfNoEvents() {
        ContourTracer x = islands();
        due("LINES as they are", x.after(60, 0), 2);
        due("LANDS as they are", x.after(60, 1), 2);
        due("VOLUME as it is", x.after(60, 2), 10);
        x.event(2, 99);
        due("no LINES by LEVEL 1", x.after(1, 0), 0);
        due("no LANDS by LEVEL 1", x.after(1, 1), 0);
        due("one LINE by LEVEL 0", x.after(0, 0), 1);
        due("one LAND by LEVEL 0", x.after(0, 1), 1);
        x.event(4, 0);
        due("all 99: LINES by LEVEL 99", x.after(99, 0), 1);
        due("all 99: VOLUME", x.after(0, 2), 6 * 4 * 99);
        due("of(5) stays", x.of(5), 60);
        due("at(60, 0) stays", x.at(60, 0), 2);
    }

    @Says(in = "Promise 28", words = "BAD: level; NONE: what.")
    static void afterBadAndNone() {
        ContourTracer x = islands();
        for (int what = 0; what < 3; what++) {
            int asked = what;
            badLevels("after, what " + what, level -> x.after(level, asked));
        }
        due("after(60, -1)", x.after(60, -1), NONE);
        due("after(60, 3)", x.after(60, 3), NONE);
        for (int far : FAR) {
            due("after(60, " + far + ")", x.after(60, far), NONE);
            due("after(100, " + far + ")", x.after(100, far), BAD);
        }
    }

    @Says(in = "Promise 29", words = "A row comes to the BOOK: how many there are (point -1: it is empty then, 0, whatever the rest is).")
    static void bookEmptyThen() {
        ContourTracer x = made("size 2 2");
        due("it was empty", x.book(-1, 0), 0);
        due("book(3, 99)", x.book(3, 99), 1);
        due("book(3, 99) once more comes, too", x.book(3, 99), 2);
        due("looked()", x.looked(), 0);
        due("book(-1, 100)", x.book(-1, 100), 0);
        due("looked()", x.looked(), LACKING);
        for (int far : FAR) {
            x.book(0, 1);
            due("book(-1, " + far + ")", x.book(-1, far), 0);
            due("count(2)", x.count(2), 0);
        }
        for (int i = 1; i <= 8; i++) {
            due("book(0, 0)", x.book(0, 0), i);
        }
        due("of eight, book(-1, -1)", x.book(-1, -1), 0);
        due("the first again", x.book(0, 0), 1);
    }

    @Says(in = "Promise 29", words = "NONE: point; BAD: v; FULL: 8.")
    static void bookRefused() {
        ContourTracer x = made("size 2 2");
        due("book(-2, 0)", x.book(-2, 0), NONE);
        due("book(4, 0)", x.book(4, 0), NONE);
        due("book(0, -1)", x.book(0, -1), BAD);
        due("book(0, 100)", x.book(0, 100), BAD);
        for (int far : FAR) {
            due("book(" + far + ", 0)", x.book(far, 0), NONE);
            due("book(0, " + far + ")", x.book(0, far), BAD);
        }
        due("count(2)", x.count(2), 0);
        due("book(0, 0)", x.book(0, 0), 1);
        due("book(3, 0)", x.book(3, 0), 2);
        for (int i = 3; i <= 8; i++) {
            due("book(3, 0)", x.book(3, 0), i);
        }
        due("the ninth", x.book(3, 99), FULL);
        due("count(2)", x.count(2), 8);
        due("looked(): it isn't there", x.looked(), LACKING);
        due("book(-1, 0)", x.book(-1, 0), 0);
        due("book(0, 99)", x.book(0, 99), 1);
    }

    @Says(in = "Promise 30", words = "LOOKED at; -5.")
    static void lookedAtNone() {
        ContourTracer x = made("size 2 2");
        due("an empty BOOK", x.looked(), LACKING);
        x.book(3, 0);
        due("as it is", x.looked(), LACKING);
        for (int i = 2; i <= 8; i++) {
            x.book(0, i == 8 ? 1 : 0);
        }
        due("the last row", x.looked(), 7);
        x.height(0, 1);
        due("the second row", x.looked(), 1);
        x.height(3, 1);
        due("the first row", x.looked(), 0);
    }

    // ---- judging, the image, tapes

    @Says(in = "Promise 31", words = "JUDGED from place i of a TAPE on. NONE: tape; CAST: it is no row of bytes.")
    static void judgeRefused() {
        ContourTracer x = made("size 2 2");
        due("judge(-1, 0)", x.judge(-1, 0), NONE);
        due("judge(6, 0)", x.judge(6, 0), NONE);
        for (int far : FAR) {
            due("judge(" + far + ", 0)", x.judge(far, 0), NONE);
            due("judge(" + far + ", " + far + ")", x.judge(far, far), NONE);
        }
        due("nothing is no row of another sort", x.judge(5, 0), 100);
        for (int sort = 1; sort < 5; sort++) {
            x.tape(5, sort, 4);
            due("sort " + sort, x.judge(5, 0), CAST);
            due("sort " + sort + ", place 4", x.judge(5, 4), CAST);
            due("sort " + sort + ", place -1", x.judge(5, -1), CAST);
            x.tape(5, sort, 0);
            due("sort " + sort + " without items", x.judge(5, 0), CAST);
        }
        x.tape(5, 0, 5);
        x.item(5, 0, 1);
        due("bytes, from 0 on", x.judge(5, 0), 0);
        due("bytes, from 1 on", x.judge(5, 1), LACKING);
        due("bytes, from 2 on", x.judge(5, 2), 103);
        for (int far : FAR) {
            due("judge(5, " + far + ")", x.judge(5, far), 100);
        }
    }

    @Says(in = "Promise 32", words = "THE IMAGE is taken: HEIGHTS of all POINTS, together.")
    static void imageFromNothingToAll() {
        ContourTracer x = new ContourTracer();
        due("all 0", x.image(), 0);
        x.size(2, 2);
        x.height(3, 99);
        due("the last POINT", x.image(), 99);
        x = made("size 7 7;fill 0 48 99");
        due("all 99", x.image(), 49 * 99);
        x.size(2, 2);
        due("the newest", x.image(), 0);
        x.size(7, 7);
        due("undo() to the newest", x.undo(), 0);
        due("told(0)", x.told(0), 2);
    }

    @Says(in = "Promise 33", words = "All is as THE IMAGE (THE TEXT and the TAPES stay as they are):")
    static void undoLeavesTheTextAndTheTapes() {
        ContourTracer x = made("size 2 3;point 5 9;rule 3");
        x.tape(0, 0, 1);
        feed(x, "tu");
        x.image();
        feed(x, "rn");
        x.tape(0, 1, 2);
        x.item(0, 1, 300);
        x.tape(5, 3, 60);
        x.rule(0);
        x.size(3, 2);
        due("undo()", x.undo(), 9);
        due("count(3)", x.count(3), 4);
        due("peek(0, 1)", x.peek(0, 1), 300);
        due("peek(5, 59)", x.peek(5, 59), 0);
        due("told(2)", x.told(2), 3);
        due("told(1)", x.told(1), 3);
        due("read(): THE TEXT", x.read(), 1);
        due("of(5)", x.of(5), 90);
    }

    @Says(in = "Promise 33", words = "HEIGHTS of all POINTS, together.")
    static void undoTellsAllHeights() {
        ContourTracer x = made("size 7 7;fill 0 48 99");
        x.image();
        x.size(2, 2);
        due("undo()", x.undo(), 49 * 99);
        due("of(48)", x.of(48), 99);
        due("at(99, 0): LINES as then", x.at(99, 0), 1);
        due("told(7)", x.told(7), 1);
        x.height(0, 0);
        due("undo() once more: THE IMAGE stays", x.undo(), 49 * 99);
        due("undo() of what is as then", x.undo(), 49 * 99);
    }

    @Says(in = "Promise 33", words = "STATE: there is none.")
    static void undoWithoutAnImage() {
        ContourTracer x = made("size 2 3;point 5 9;rule 3");
        String then = held(x);
        due("undo()", x.undo(), STATE);
        due("undo() once more", x.undo(), STATE);
        alike("all that is held", held(x), then);
        x.image();
        due("with one", x.undo(), 9);
    }

    @Says(in = "Promise 34", words = "How many: 0 SEEN, 1 EVENTS, 2 of the BOOK, 3 bytes of THE TEXT. BAD.")
    static void countFromNoneToFull() {
        ContourTracer x = new ContourTracer();
        for (int what = 0; what < 4; what++) {
            due("none: count(" + what + ")", x.count(what), 0);
        }
        for (int i = 0; i < 101; i++) {
            x.feed(0);
        }
        for (int i = 0; i < 9; i++) {
            x.see(0, 0);
            x.event(0, 0);
            x.book(0, 0);
        }
        int[] full = {6, 8, 8, 100};
        for (int what = 0; what < 4; what++) {
            due("full: count(" + what + ")", x.count(what), full[what]);
        }
        due("count(-1)", x.count(-1), BAD);
        due("count(4)", x.count(4), BAD);
        for (int far : FAR) {
            due("count(" + far + ")", x.count(far), BAD);
        }
    }

    @Says(in = "Promise 35", words = "A TAPE becomes a row of n (0 .. 60) of a sort, all 0,")
    static void tapeFrom0To60Items() {
        ContourTracer x = new ContourTracer();
        for (int sort = 0; sort < 5; sort++) {
            due("tape(0, " + sort + ", 60)", x.tape(0, sort, 60), 1);
            for (int i = 0; i < 60; i++) {
                due("peek(0, " + i + ")", x.peek(0, i), 0);
            }
            due("peek(0, 60)", x.peek(0, 60), NO);
            x.item(0, 0, 1);
            x.item(0, 59, 1);
        }
        due("the same once more", x.tape(0, 4, 60), 1);
        due("peek(0, 0): all 0 again", x.peek(0, 0), 0);
        due("peek(0, 59): all 0 again", x.peek(0, 59), 0);
        x.item(0, 59, 1);
        due("0 items", x.tape(0, 4, 0), 1);
        due("peek(0, 0)", x.peek(0, 0), NO);
        due("item(0, 0, 1): it holds a row", x.item(0, 0, 1), PLACE);
        due("1 item", x.tape(0, 4, 1), 1);
        due("peek(0, 0)", x.peek(0, 0), 0);
        due("peek(0, 1)", x.peek(0, 1), NO);
        due("60 items again", x.tape(0, 4, 60), 1);
        due("peek(0, 59): what was is gone", x.peek(0, 59), 0);
    }

    @Says(in = "Promise 35", words = "or holds nothing (sort -1: n does not matter): 1.")
    static void tapeHoldsNothing() {
        ContourTracer x = new ContourTracer();
        for (int n : new int[] {0, -1, 60, 61, MIN, MAX}) {
            x.tape(5, 2, 3);
            due("tape(5, -1, " + n + ")", x.tape(5, -1, n), 1);
            due("item(5, 0, 0)", x.item(5, 0, 0), NOTHING);
            due("peek(5, 0)", x.peek(5, 0), NO);
            due("once more", x.tape(5, -1, n), 1);
        }
    }

    @Says(in = "Promise 35", words = "NONE: tape; BAD: sort, n above 60; SIZE.")
    static void tapeRefused() {
        ContourTracer x = new ContourTracer();
        x.tape(0, 2, 3);
        x.item(0, 2, 7);
        due("tape(-1, 0, 1)", x.tape(-1, 0, 1), NONE);
        due("tape(6, 0, 1)", x.tape(6, 0, 1), NONE);
        due("tape(6, -1, 1)", x.tape(6, -1, 1), NONE);
        due("tape(0, -2, 1)", x.tape(0, -2, 1), BAD);
        due("tape(0, 5, 1)", x.tape(0, 5, 1), BAD);
        due("tape(0, 2, 61)", x.tape(0, 2, 61), BAD);
        due("tape(0, 2, -1)", x.tape(0, 2, -1), SIZE);
        for (int far : FAR) {
            due("tape(" + far + ", 2, 3)", x.tape(far, 2, 3), NONE);
            due("tape(0, " + far + ", 3)", x.tape(0, far, 3), BAD);
            due("tape(0, 2, " + far + ")", x.tape(0, 2, far), far < 0 ? SIZE : BAD);
            due("tape(0, 5, " + far + ")", x.tape(0, 5, far), BAD);
        }
        due("peek(0, 2): it is as it was", x.peek(0, 2), 7);
        due("peek(0, 3)", x.peek(0, 3), NO);
        due("the last TAPE, no items", x.tape(5, 0, 0), 1);
    }

    @Says(in = "Promise 36", words = "Item i of a TAPE becomes v (its lowest bits, as many as an item has;")
    static void itemWrapsAround() {
        ContourTracer x = new ContourTracer();
        for (int sort = 0; sort < 4; sort++) {
            x.tape(sort, sort, 1);
        }
        long[][] due = {{127, 127}, {128, -128}, {255, -1}, {256, 0}, {-129, 127}, {-128, -128}, {Long.MIN_VALUE, 0},
            {Long.MAX_VALUE, -1}};
        for (long[] d : due) {
            due("item(0, 0, " + d[0] + ")", x.item(0, 0, d[0]), 1);
            due("a byte of " + d[0], x.peek(0, 0), d[1]);
        }
        due = new long[][] {{32767, 32767}, {32768, -32768}, {65535, -1}, {65536, 0}, {-32769, 32767}, {-32768, -32768},
            {Long.MIN_VALUE, 0}, {Long.MAX_VALUE, -1}};
        for (long[] d : due) {
            due("item(1, 0, " + d[0] + ")", x.item(1, 0, d[0]), 1);
            due("a short of " + d[0], x.peek(1, 0), d[1]);
        }
        due = new long[][] {{MAX, MAX}, {MAX + 1L, MIN}, {0xFFFFFFFFL, -1}, {1L << 32, 0}, {MIN - 1L, MAX}, {MIN, MIN},
            {Long.MIN_VALUE, 0}, {Long.MAX_VALUE, -1}};
        for (long[] d : due) {
            due("item(2, 0, " + d[0] + ")", x.item(2, 0, d[0]), 1);
            due("an int of " + d[0], x.peek(2, 0), d[1]);
        }
        for (long v : new long[] {Long.MAX_VALUE, Long.MIN_VALUE, Long.MIN_VALUE + 1, -1, 0, 1L << 32}) {
            due("item(3, 0, " + v + ")", x.item(3, 0, v), 1);
            due("a long of " + v, x.peek(3, 0), v);
        }
    }

    @Says(in = "Promise 36", words = "booleans: whether v is not 0): 1.")
    static void itemOfBooleans() {
        ContourTracer x = new ContourTracer();
        x.tape(0, 4, 1);
        for (long v : new long[] {1, -1, 2, 256, 1L << 32, Long.MIN_VALUE, Long.MAX_VALUE}) {
            due("item(0, 0, " + v + ")", x.item(0, 0, v), 1);
            due("of " + v, x.peek(0, 0), 1);
            due("item(0, 0, 0)", x.item(0, 0, 0), 1);
            due("of 0", x.peek(0, 0), 0);
        }
    }

    @Says(in = "Promise 36", words = "NONE; NOTHING; PLACE.")
    static void itemRefused() {
        ContourTracer x = new ContourTracer();
        due("item(0, 0, 1) of nothing", x.item(0, 0, 1), NOTHING);
        due("item(0, -1, 1) of nothing", x.item(0, -1, 1), NOTHING);
        due("item(-1, 0, 1)", x.item(-1, 0, 1), NONE);
        due("item(6, 0, 1)", x.item(6, 0, 1), NONE);
        x.tape(0, 2, 3);
        due("item(0, 2, 1): the last", x.item(0, 2, 1), 1);
        due("item(0, 3, 1)", x.item(0, 3, 1), PLACE);
        due("item(0, -1, 1)", x.item(0, -1, 1), PLACE);
        for (int far : FAR) {
            due("item(" + far + ", 0, 1)", x.item(far, 0, 1), NONE);
            due("item(0, " + far + ", 1)", x.item(0, far, 1), PLACE);
            due("item(1, " + far + ", 1)", x.item(1, far, 1), NOTHING);
        }
        due("peek(0, 0)", x.peek(0, 0), 0);
        due("peek(0, 1)", x.peek(0, 1), 0);
        x.tape(0, 2, 60);
        due("item(0, 59, 1)", x.item(0, 59, 1), 1);
        due("item(0, 60, 1)", x.item(0, 60, 1), PLACE);
    }

    @Says(in = "Promise 37", words = "Item i of a TAPE. NO: no such TAPE, nothing there, no such place.")
    static void peekNo() {
        ContourTracer x = new ContourTracer();
        due("nothing there", x.peek(5, 0), NO);
        due("no such TAPE, 6", x.peek(6, 0), NO);
        due("no such TAPE, -1", x.peek(-1, 0), NO);
        x.tape(5, 3, 60);
        due("item(5, 0, -14)", x.item(5, 0, -14), 1);
        due("peek(5, 0): an item may be as a refusal", x.peek(5, 0), -14);
        due("peek(5, 59)", x.peek(5, 59), 0);
        due("peek(5, 60)", x.peek(5, 60), NO);
        due("peek(5, -1)", x.peek(5, -1), NO);
        for (int far : FAR) {
            due("peek(" + far + ", 0)", x.peek(far, 0), NO);
            due("peek(5, " + far + ")", x.peek(5, far), NO);
        }
        x.tape(5, 3, 0);
        due("a row without items", x.peek(5, 0), NO);
        x.tape(5, -1, 0);
        due("nothing there again", x.peek(5, 0), NO);
    }

    /** A TAPE of ints 1, 2, .. */
    private static void counted(ContourTracer x, int tape, int n) {
        x.tape(tape, 2, n);
        for (int i = 0; i < n; i++) {
            x.item(tape, i, i + 1);
        }
    }

    private static String items(ContourTracer x, int tape) {
        StringBuilder s = new StringBuilder();
        for (int i = 0; i < 61 && x.peek(tape, i) != NO; i++) {
            s.append(i == 0 ? "" : " ").append(x.peek(tape, i));
        }
        return s.toString();
    }

    @Says(in = "Promise 38", words = "n items of a TAPE from i on come to another one (or the same) from j on, as they all were before: n.")
    static void shiftOverItself() {
        ContourTracer x = new ContourTracer();
        counted(x, 0, 5);
        due("on by one", x.shift(0, 0, 0, 1, 4), 4);
        alike("on by one", items(x, 0), "1 1 2 3 4");
        counted(x, 0, 5);
        due("back by one", x.shift(0, 1, 0, 0, 4), 4);
        alike("back by one", items(x, 0), "2 3 4 5 5");
        due("where they are", x.shift(0, 0, 0, 0, 5), 5);
        alike("where they are", items(x, 0), "2 3 4 5 5");
        x.tape(5, 2, 3);
        due("all of another one", x.shift(0, 0, 5, 0, 3), 3);
        alike("all of another one", items(x, 5), "2 3 4");
        alike("the one they come from stays", items(x, 0), "2 3 4 5 5");
        due("the last one to the last place", x.shift(0, 4, 5, 2, 1), 1);
        alike("the last one to the last place", items(x, 5), "2 3 5");
        due("none", x.shift(0, 0, 5, 0, 0), 0);
        due("none, from the end", x.shift(0, 5, 5, 0, 0), 0);
        due("none, to the end", x.shift(0, 0, 5, 3, 0), 0);
        alike("none", items(x, 5), "2 3 5");
        x.tape(1, 2, 60);
        x.tape(2, 2, 60);
        x.item(1, 59, 9);
        due("all of 60", x.shift(1, 0, 2, 0, 60), 60);
        due("peek(2, 59)", x.peek(2, 59), 9);
        x.tape(1, 2, 0);
        due("none of a row without items", x.shift(1, 0, 1, 0, 0), 0);
    }

    @Says(in = "Promise 38", words = "NONE: tapes; NOTHING; CAST: of unlike sorts;")
    static void shiftNoneNothingCast() {
        ContourTracer x = new ContourTracer();
        counted(x, 0, 5);
        due("from 6", x.shift(6, 0, 0, 0, 1), NONE);
        due("from -1", x.shift(-1, 0, 0, 0, 1), NONE);
        due("to 6", x.shift(0, 0, 6, 0, 1), NONE);
        due("to -1", x.shift(0, 0, -1, 0, 1), NONE);
        for (int far : FAR) {
            due("from " + far, x.shift(far, 0, 0, 0, 0), NONE);
            due("to " + far, x.shift(0, 0, far, 0, 0), NONE);
        }
        due("no such one ahead of nothing", x.shift(1, 0, 6, 0, 0), NONE);
        due("from one that holds nothing", x.shift(1, 0, 0, 0, 0), NOTHING);
        due("to one that holds nothing", x.shift(0, 0, 1, 0, 0), NOTHING);
        due("nothing to itself", x.shift(1, 0, 1, 0, 0), NOTHING);
        for (int one = 0; one < 5; one++) {
            for (int other = 0; other < 5; other++) {
                x.tape(1, one, 2);
                x.tape(2, other, 2);
                due("sorts " + one + ", " + other, x.shift(1, 0, 2, 0, 2), one == other ? 2 : CAST);
            }
        }
        x.tape(1, 0, 0);
        due("unlike, no items", x.shift(1, 0, 0, 0, 0), CAST);
        due("unlike ahead of PLACE", x.shift(1, -1, 0, 9, 99), CAST);
        alike("it is as it was", items(x, 0), "1 2 3 4 5");
    }

    @Says(in = "Promise 38", words = "PLACE: n, i or j is below 0, or beyond either's end.")
    static void shiftPlace() {
        ContourTracer x = new ContourTracer();
        counted(x, 0, 5);
        counted(x, 1, 3);
        due("n below 0", x.shift(0, 1, 1, 1, -1), PLACE);
        due("i below 0", x.shift(0, -1, 1, 0, 1), PLACE);
        due("i below 0, none", x.shift(0, -1, 1, 0, 0), PLACE);
        due("j below 0", x.shift(0, 0, 1, -1, 1), PLACE);
        due("j below 0, none", x.shift(0, 0, 1, -1, 0), PLACE);
        due("beyond the first one's end", x.shift(1, 1, 0, 0, 3), PLACE);
        due("beyond the second one's end", x.shift(0, 0, 1, 1, 3), PLACE);
        due("i beyond, none", x.shift(0, 6, 1, 0, 0), PLACE);
        due("j beyond, none", x.shift(0, 0, 1, 4, 0), PLACE);
        due("more than the second one has", x.shift(0, 0, 1, 0, 4), PLACE);
        due("more than the first one has", x.shift(1, 0, 0, 0, 4), PLACE);
        due("beyond its own end", x.shift(0, 0, 0, 1, 5), PLACE);
        for (int far : FAR) {
            due("n " + far, x.shift(0, 1, 1, 1, far), PLACE);
            due("i " + far, x.shift(0, far, 1, 0, 1), PLACE);
            due("j " + far, x.shift(0, 0, 1, far, 1), PLACE);
            due("all " + far, x.shift(0, far, 1, far, far), PLACE);
        }
        due("a wrap-around of i and n", x.shift(0, MAX, 1, 0, 2), PLACE);
        due("a wrap-around of j and n", x.shift(0, 0, 1, 2, MAX), PLACE);
        alike("it is as it was", items(x, 1), "1 2 3");
        due("up to both ends", x.shift(0, 2, 1, 0, 3), 3);
        alike("up to both ends", items(x, 1), "3 4 5");
    }
}
