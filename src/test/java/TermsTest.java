import java.io.IOException;

/** Each sentence of 'Terms' that names a boundary case, by a test of its own. Answers are worked out by hand. */
public final class TermsTest extends Sentences {
    /** Four LINES, each of which holds the next one: round all, round the moat, round the ring, round its middle. */
    private static final String NESTED = "#######/#.....#/#.###.#/#.#.#.#/#.###.#/#.....#/#######";
    private static final String CHECKERED = "#.#.#.#/.#.#.#./#.#.#.#/.#.#.#./#.#.#.#/.#.#.#./#.#.#.#";

    public static void main(String[] args) throws IOException {
        runAll(TermsTest.class, "Terms");
    }

    // ---- the ground

    @Says(in = "Terms", words = "HIGH rows of WIDE POINTS (2 .. 7 each;")
    static void sidesFromTwoToSeven() {
        for (int high = 2; high <= 7; high++) {
            for (int wide = 2; wide <= 7; wide++) {
                ContourTracer x = new ContourTracer();
                due("size(" + high + ", " + wide + ")", x.size(high, wide), 66);
                due("told(0)", x.told(0), high);
                due("told(1)", x.told(1), wide);
                due("of the last POINT", x.of(high * wide - 1), 0);
                due("of one more", x.of(high * wide), NONE);
            }
        }
        ContourTracer x = new ContourTracer();
        due("size(1, 2)", x.size(1, 2), BAD);
        due("size(2, 1)", x.size(2, 1), BAD);
        due("size(8, 7)", x.size(8, 7), BAD);
        due("size(7, 8)", x.size(7, 8), BAD);
    }

    @Says(in = "Terms", words = "6 and 6 at first)")
    static void sixAndSixAtFirst() {
        ContourTracer x = new ContourTracer();
        due("told(0)", x.told(0), 6);
        due("told(1)", x.told(1), 6);
    }

    @Says(in = "Terms", words = "numbered from 0, row by row, each with a HEIGHT")
    static void aRowsLastPointIsNotNextToTheNextRowsFirst() {
        ContourTracer x = new ContourTracer();
        x.size(2, 3);
        x.height(2, 50);
        x.height(3, 50);
        alike("picture", drawn(x, 50), "..#/#..");
        due("at(50, 2)", x.at(50, 2), 2);
        x.height(5, 50);
        alike("picture, the last POINT", drawn(x, 50), "..#/#.#");
    }

    @Says(in = "Terms", words = "each with a HEIGHT (0 .. 99;")
    static void heightsFrom0To99() {
        ContourTracer x = new ContourTracer();
        due("height(0, 99)", x.height(0, 99), 0);
        due("height(0, 100)", x.height(0, 100), BAD);
        due("of(0)", x.of(0), 99);
        due("height(0, 0)", x.height(0, 0), 99);
        due("height(0, -1)", x.height(0, -1), BAD);
        due("of(0)", x.of(0), 0);
    }

    @Says(in = "Terms", words = "0 at first). A PLACE")
    static void heightsAre0AtFirst() {
        ContourTracer x = new ContourTracer();
        for (int point = 0; point < 36; point++) {
            due("of(" + point + ")", x.of(point), 0);
        }
    }

    @Says(in = "Terms", words = "A PLACE is a POINT, or one beyond: rows go from -1 to HIGH, columns from -1 to WIDE;")
    static void onePlaceBeyondOnEachSide() {
        ContourTracer x = new ContourTracer();
        x.size(2, 3);
        // 4 rows of 5 PLACES: the last EDGE of a row goes to column 3, the last one of a column to row 2.
        due("edge from row -1, column -1", x.edge(0, 0), LACKING);
        due("edge to row -1, column 3", x.edge(0, 6), LACKING);
        due("edge from row -1, column 3, on", x.edge(0, 8), NONE);
        due("edge down from row -1, column 3", x.edge(0, 9), LACKING);
        due("edge to row 2, column 3", x.edge(0, 2 * 18), LACKING);
        due("edge down to row 2, column 3", x.edge(0, 2 * 14 + 1), LACKING);
        due("edge down from row 2", x.edge(0, 2 * 15 + 1), NONE);
    }

    @Says(in = "Terms", words = "all that are no POINTS have HEIGHT -1.")
    static void placesBeyondAreOutByLevel0() {
        ContourTracer x = new ContourTracer();
        x.size(2, 2);
        due("square(0, 0, 0)", x.square(0, 0, 0), 4);
        due("square(0, 1, 0)", x.square(0, 1, 0), 4 + 8);
        due("square(0, 2, 0)", x.square(0, 2, 0), 8);
        due("square(0, 3, 0)", x.square(0, 3, 0), 2 + 4);
        due("square(0, 5, 0)", x.square(0, 5, 0), 1 + 8);
        due("square(0, 6, 0)", x.square(0, 6, 0), 2);
        due("square(0, 7, 0)", x.square(0, 7, 0), 1 + 2);
        due("square(0, 8, 0)", x.square(0, 8, 0), 1);
        due("at(0, 0): a LINE goes round all", x.at(0, 0), 1);
        due("line(0, 0, 1)", x.line(0, 0, 1), 8);
        due("at(0, 3): none of them is a POINT that is IN", x.at(0, 3), 4);
    }

    @Says(in = "Terms", words = "all that are no POINTS have HEIGHT -1.")
    static void placesBeyondStayOutWhateverIsDone() {
        String round = "lddrruul";
        ContourTracer x = made("size 2 2;hill 3 99 0");
        alike("a hill", walked(x, 99, 0), round);
        x = made("size 2 2;turn");
        alike("turned", walked(x, 99, 0), round);
        x = made("size 2 2;turn;turn");
        alike("turned twice", walked(x, 0, 0), round);
        x = made("size 2 2;fill 0 3 99");
        alike("filled", walked(x, 99, 0), round);
        x = made("size 7 7;fill 0 48 99;size 2 2;fill 0 3 99");
        alike("what was a POINT is beyond", walked(x, 99, 0), round);
        x.image();
        x.size(7, 7);
        x.undo();
        alike("undone", walked(x, 99, 0), round);
        x.event(2, 99);
        x.event(4, 0);
        due("behind EVENTS", x.after(99, 0), 1);
    }

    @Says(in = "Terms", words = "(WIDE plus 2) times (its row plus 1), plus its column plus 1.")
    static void numbersOfTheFirstAndTheLastPlaces() {
        // The last POINT has NUMBER 4 * 7 + 2 = 30, the PLACE above it 26.
        ContourTracer x = new ContourTracer();
        x.size(7, 2);
        x.height(13, 9);
        alike("the last POINT of 7 by 2", edges(x, 9, 0), "53 58 61 60");
        // The last POINT has NUMBER 9 * 2 + 7 = 25, the PLACE above it 16.
        x = new ContourTracer();
        x.size(2, 7);
        x.height(13, 9);
        alike("the last POINT of 2 by 7", edges(x, 9, 0), "33 48 51 50");
        // The first POINT has NUMBER 10, the PLACE above it 1.
        x.height(13, 0);
        x.height(0, 9);
        alike("the first POINT of 2 by 7", edges(x, 9, 0), "3 18 21 20");
    }

    @Says(in = "Terms", words = "By a LEVEL (0 .. 99) a PLACE is IN, if its HEIGHT is that or more, else OUT.")
    static void asHighAsTheLevelIsIn() {
        ContourTracer x = new ContourTracer();
        x.size(2, 2);
        x.height(0, 98);
        x.height(1, 99);
        x.height(2, 1);
        alike("picture(0)", drawn(x, 0), "##/##");
        alike("picture(1)", drawn(x, 1), "##/#.");
        alike("picture(2)", drawn(x, 2), "##/..");
        alike("picture(98)", drawn(x, 98), "##/..");
        alike("picture(99)", drawn(x, 99), ".#/..");
    }

    @Says(in = "Terms", words = "An EDGE: two PLACES next to one another in a row, or in a column;")
    static void noEdgeBehindTheLastPlaces() {
        for (int high = 2; high <= 7; high += 5) {
            for (int wide = 2; wide <= 7; wide += 5) {
                ContourTracer x = new ContourTracer();
                x.size(high, wide);
                int there = 0;
                for (int edge = 0; edge < 2 * (high + 2) * (wide + 2) + 4; edge++) {
                    there += x.edge(0, edge) == NONE ? 0 : 1;
                }
                due("how many EDGES there are", there, (high + 2) * (wide + 1) + (high + 1) * (wide + 2));
            }
        }
    }

    @Says(in = "Terms", words = "its NUMBER: twice the NUMBER of the left (upper) one, and 1 more, if they are in a column.")
    static void anEdgeInAColumnHasTheOddNumber() {
        ContourTracer x = ground("../.#");
        due("edge above POINT 3", x.edge(50, 2 * 6 + 1), 0);
        due("edge left of POINT 3", x.edge(50, 2 * 9), 0);
        due("edge right of POINT 3", x.edge(50, 2 * 10), 0);
        due("edge below POINT 3", x.edge(50, 2 * 10 + 1), 0);
        due("edge above POINT 2", x.edge(50, 2 * 5 + 1), LACKING);
        due("edge right of POINT 1", x.edge(50, 2 * 6), LACKING);
    }

    @Says(in = "Terms", words = "It is CROSSED, if one of the two is IN and the other one OUT.")
    static void notCrossedIfBothAreInOrOut() {
        ContourTracer x = ground("##/..");
        due("both IN", x.edge(50, 2 * 5), LACKING);
        due("both OUT", x.edge(50, 2 * 9), LACKING);
        due("IN above OUT", x.edge(50, 2 * 5 + 1), 0);
        due("OUT above IN", x.edge(50, 2 * 1 + 1), 0);
        due("IN left of OUT", x.edge(50, 2 * 6), 0);
        due("OUT left of IN", x.edge(50, 2 * 4), 0);
    }

    @Says(in = "Terms", words = "(WIDE plus 1 to a row; the first one is of rows -1, 0 and columns -1, 0).")
    static void squaresOfTheCorners() {
        ContourTracer x = ground("#..#/..../#..#");
        due("the first SQUARE", x.square(50, 0, 0), 4);
        due("the last of the first row", x.square(50, 4, 0), 8);
        due("the first of the second row", x.square(50, 5, 0), 2);
        due("the last of the second row", x.square(50, 9, 0), 1);
        due("the first of the last row", x.square(50, 15, 0), 2);
        due("the last one", x.square(50, 19, 0), 1);
        due("one more", x.square(50, 20, 0), NONE);
    }

    @Says(in = "Terms", words = "1, if its upper left PLACE is IN, 2 for the upper right one, 4 for the lower right one, 8 for the lower left one, together.")
    static void casesFromNoneToAll() {
        for (int code = 0; code < 16; code++) {
            due("square(50, 4, 0) of CASE " + code, ofCase(code).square(50, 4, 0), code);
        }
    }

    @Says(in = "Terms", words = "A SADDLE: CASE 5 or 10.")
    static void saddlesAreCases5And10() {
        for (int code = 0; code < 16; code++) {
            ContourTracer x = ofCase(code);
            due("at(50, 4) of CASE " + code, x.at(50, 4), code == 5 || code == 10 ? 1 : 0);
            due("square(50, 4, 1) of CASE " + code, x.square(50, 4, 1), code == 5 || code == 10 ? 1 : 0);
        }
    }

    /** 2 by 2 POINTS whose SQUARE, the one of number 4, has a CASE by LEVEL 50. */
    private static ContourTracer ofCase(int code) {
        ContourTracer x = new ContourTracer();
        x.size(2, 2);
        int[] points = {0, 1, 3, 2};
        for (int bit = 0; bit < 4; bit++) {
            x.height(points[bit], (code >> bit) % 2 == 1 ? 50 : 49);
        }
        return x;
    }

    // ---- the rule

    /** Whether the one SQUARE of POINTS is JOINED, HEIGHTS being told row by row. */
    private static long joined(int kind, int level, int a, int b, int c, int d) {
        ContourTracer x = new ContourTracer();
        x.size(2, 2);
        int[] heights = {a, b, c, d};
        for (int point = 0; point < 4; point++) {
            x.height(point, heights[point]);
        }
        x.rule(kind);
        return x.square(level, 4, 1);
    }

    @Says(in = "Terms", words = "0 ALL (at first).")
    static void allAreJoinedAtFirst() {
        ContourTracer x = ground(CHECKERED);
        due("told(2)", x.told(2), 0);
        due("at(50, 4)", x.at(50, 4), 36);
        due("at(50, 5)", x.at(50, 5), 36);
    }

    @Says(in = "Terms", words = "(the others are PARTED): 0 ALL (at first). 1 NONE.")
    static void noneAreJoined() {
        ContourTracer x = ground(CHECKERED);
        x.rule(1);
        due("at(50, 4)", x.at(50, 4), 36);
        due("at(50, 5)", x.at(50, 5), 0);
    }

    @Says(in = "Terms", words = "2 MEAN: if HEIGHTS of its four PLACES, together, are 4 times the LEVEL or more.")
    static void meanFrom4TimesTheLevelOn() {
        due("120 by LEVEL 30, CASE 5", joined(2, 30, 60, 0, 0, 60), 1);
        due("119 by LEVEL 30, CASE 5", joined(2, 30, 59, 0, 0, 60), 0);
        due("121 by LEVEL 30, CASE 5", joined(2, 30, 60, 1, 0, 60), 1);
        due("120 by LEVEL 30, CASE 10", joined(2, 30, 0, 60, 60, 0), 1);
        due("119 by LEVEL 30, CASE 10", joined(2, 30, 0, 60, 59, 0), 0);
        due("4 by LEVEL 1", joined(2, 1, 3, 0, 0, 1), 1);
        due("3 by LEVEL 1", joined(2, 1, 2, 0, 0, 1), 0);
    }

    @Says(in = "Terms", words = "3 CHECKED: if its NUMBER by (WIDE plus 1), cut, plus its NUMBER modulo (WIDE plus 1) is even.")
    static void checkedByEvenSums() {
        ContourTracer x = ground(CHECKERED);
        x.rule(3);
        due("at(50, 5)", x.at(50, 5), 18);
        for (int square = 0; square < 64; square++) {
            int row = square / 8;
            int column = square % 8;
            boolean inside = row > 0 && row < 7 && column > 0 && column < 7;
            due("square(50, " + square + ", 1)", x.square(50, square, 1), inside && (row + column) % 2 == 0 ? 1 : 0);
        }
        // With 4 to a row SQUARES 5 and 6 are at 1, 1 and at 1, 2.
        x = ground("#.#/.#.");
        x.rule(3);
        due("square(50, 5, 1)", x.square(50, 5, 1), 1);
        due("square(50, 6, 1)", x.square(50, 6, 1), 0);
    }

    @Says(in = "Terms", words = "is as much as (HEIGHT less LEVEL) of the one that is OUT times that of the other one, or more.")
    static void crossFromAsMuchOn() {
        due("30 * 30 and 30 * 30, CASE 5", joined(4, 30, 60, 0, 0, 60), 1);
        due("29 * 30 and 30 * 30, CASE 5", joined(4, 30, 59, 0, 0, 60), 0);
        due("30 * 30 and 29 * 30, CASE 5", joined(4, 30, 60, 1, 0, 60), 1);
        due("30 * 30 and 30 * 30, CASE 10", joined(4, 30, 0, 60, 60, 0), 1);
        due("29 * 30 and 30 * 30, CASE 10", joined(4, 30, 0, 60, 59, 0), 0);
        due("30 * 30 and 29 * 30, CASE 10", joined(4, 30, 1, 60, 60, 0), 1);
        due("0 * 69 and 1 * 1: one is just IN", joined(4, 30, 30, 29, 29, 99), 0);
        due("0 * 0 and 1 * 30, CASE 10", joined(4, 30, 29, 30, 30, 0), 0);
        due("1 * 1 and 1 * 1", joined(4, 30, 31, 29, 29, 31), 1);
    }

    // ---- lines

    @Says(in = "Terms", words = "in a SQUARE with just two CROSSED EDGES these two are joined;")
    static void linesOfAllCases() {
        // By CASE, the WAYS of the one LINE of 2 by 2 POINTS, a SADDLE being JOINED.
        String[] due = {"", "ldru", "ldru", "ldrrul", "ldru", "ldrdrulu", "lddruu", "ldrdruul", "ldru", "lddruu",
            "ldldruru", "lddrurul", "ldrrul", "lddrrulu", "ldldrruu", "lddrruul"};
        for (int code = 0; code < 16; code++) {
            ContourTracer x = ofCase(code);
            due("at(50, 0) of CASE " + code, x.at(50, 0), code == 0 ? 0 : 1);
            alike("ways of CASE " + code, walked(x, 50, 0), due[code]);
        }
    }

    @Says(in = "Terms", words = "in a SADDLE that is JOINED the two EDGES at each PLACE that is OUT are, in one that is PARTED the two at each that is IN.")
    static void joinedAroundOutPartedAroundIn() {
        ContourTracer x = ofCase(5);
        alike("CASE 5, JOINED", edges(x, 50, 0), "3 8 11 18 21 20 13 10");
        x.rule(1);
        alike("CASE 5, PARTED", edges(x, 50, 0), "3 8 11 10");
        alike("CASE 5, PARTED, the other one", edges(x, 50, 1), "13 18 21 20");
        x = ofCase(10);
        alike("CASE 10, JOINED", edges(x, 50, 0), "5 10 11 16 19 18 13 12");
        x.rule(1);
        alike("CASE 10, PARTED", edges(x, 50, 0), "5 10 13 12");
        alike("CASE 10, PARTED, the other one", edges(x, 50, 1), "11 16 19 18");
    }

    @Says(in = "Terms", words = "A LINE: EDGES joined each with the next one, till the first one comes again;")
    static void aLineEndsAheadOfItsFirstEdge() {
        ContourTracer x = ground("../.#");
        due("line(50, 0, 1)", x.line(50, 0, 1), 4);
        due("goes(50, 0, 0)", x.goes(50, 0, 0), 13);
        due("goes(50, 0, 3)", x.goes(50, 0, 3), 20);
        due("goes(50, 0, 4)", x.goes(50, 0, 4), LACKING);
        x = ground(CHECKERED);
        // 25 POINTS that are IN have 100 EDGES; 48 of them are round the 12 POINTS inside that are OUT.
        due("line(50, 0, 1)", x.line(50, 0, 1), 52);
        due("goes(50, 0, 51)", x.goes(50, 0, 51), 2 * 10);
        due("goes(50, 0, 52)", x.goes(50, 0, 52), LACKING);
    }

    @Says(in = "Terms", words = "LINES are numbered from 0 by their least EDGES.")
    static void linesByLeastEdges() {
        // The LINE of POINT 4 begins above POINT 5's, though POINT 4 is left of it and below.
        ContourTracer x = ground("..#/#../..#");
        x.rule(1);
        due("line(50, 0, 0)", x.line(50, 0, 0), 2 * 3 + 1);
        due("line(50, 1, 0)", x.line(50, 1, 0), 2 * 6 + 1);
        due("line(50, 2, 0)", x.line(50, 2, 0), 2 * 13 + 1);
        due("line(50, 3, 0)", x.line(50, 3, 0), NONE);
        due("line(50, -1, 0)", x.line(50, -1, 0), NONE);
        x = ground(CHECKERED);
        x.rule(1);
        due("at(50, 0): the most there are", x.at(50, 0), 25);
        due("line(50, 24, 0)", x.line(50, 24, 0), 2 * (9 * 6 + 7) + 1);
        due("line(50, 25, 0)", x.line(50, 25, 0), NONE);
        x = ground(NESTED);
        int[] least = {3, 23, 43, 63};
        for (int line = 0; line < 4; line++) {
            due("nested: line(50, " + line + ", 0)", x.line(50, line, 0), least[line]);
        }
    }

    @Says(in = "Terms", words = "It BEGINS with its least EDGE, and goes over each of its EDGES by a WAY: over one in a row up (u), if the left PLACE is IN, else down (d); over one in a column to the right (r), if the upper PLACE is IN, else to the left (l);")
    static void waysOfOneInAndOfOneOut() {
        alike("round one that is IN", walked(ground("#../.../..."), 50, 0), "ldru");
        ContourTracer x = ground("###/#.#/###");
        alike("round one that is OUT", walked(x, 50, 1), "rdlu");
        due("it begins with its least EDGE", x.goes(50, 1, 0), 2 * 7 + 1);
    }

    @Says(in = "Terms", words = "LENGTH: how many EDGES it has.")
    static void lengthsFrom4On() {
        due("one POINT", ground("../.#").line(50, 0, 1), 4);
        due("two POINTS", ground("../##").line(50, 0, 1), 6);
        ContourTracer x = new ContourTracer();
        x.size(7, 7);
        due("all of 7 by 7", x.line(0, 0, 1), 28);
        // A comb: 4 teeth of 7 with a back of 3 POINTS between them.
        x = ground("#######/#.#.#.#/#.#.#.#/#.#.#.#/#.#.#.#/#.#.#.#/#.#.#.#");
        due("a comb", x.line(50, 0, 1), 7 + 7 + 7 + 4 + 3 + 6 * 6);
    }

    @Says(in = "Terms", words = "to the right of it (its own one with its right neighbour, too), an odd number is of the LINE.")
    static void heldByAnOddNumberItsOwnToo() {
        ContourTracer x = ground("...../.#.#./.....");
        due("its own EDGE alone", x.holds(50, 0, 6), 1);
        due("right of it: none", x.holds(50, 0, 7), 0);
        due("left of it: two", x.holds(50, 0, 5), 0);
        due("the row above", x.holds(50, 0, 1), 0);
        due("the row below", x.holds(50, 0, 11), 0);
        due("EDGES of another LINE don't count", x.holds(50, 1, 6), 0);
        due("line(50, 0, 6)", x.line(50, 0, 6), 1);
        x = ground(NESTED);
        // The middle row, POINTS 21 .. 27.
        String[] due = {"1111111", "0111110", "0011100", "0001000"};
        for (int line = 0; line < 4; line++) {
            for (int i = 0; i < 7; i++) {
                due("nested: holds(50, " + line + ", " + (21 + i) + ")", x.holds(50, line, 21 + i), due[line].charAt(i) - '0');
            }
        }
    }

    @Says(in = "Terms", words = "if it HOLDS the left (upper) PLACE of that one's least EDGE. DEPTH of a LINE: how many LINES HOLD it.")
    static void depthsFrom0To3() {
        ContourTracer x = ground(NESTED);
        for (int line = 0; line < 4; line++) {
            due("line(50, " + line + ", 2)", x.line(50, line, 2), line);
        }
        due("at(50, 7)", x.at(50, 7), 3);
        x = ground("#.#/.../#.#");
        for (int line = 0; line < 4; line++) {
            due("side by side: line(50, " + line + ", 2)", x.line(50, line, 2), 0);
        }
        // The LINE of POINT 7 touches the bay, but it's not held: its upper PLACE is OUT in the bay.
        x = ground("###/#.#/#.#/#.#");
        due("a bay is no hole", x.at(50, 0), 1);
        due("a bay has no DEPTH", x.at(50, 7), 0);
    }

    @Says(in = "Terms", words = "It is OUTER, if that is even.")
    static void outerByEvenDepth() {
        ContourTracer x = ground(NESTED);
        for (int line = 0; line < 4; line++) {
            due("line(50, " + line + ", 4)", x.line(50, line, 4), line % 2 == 0 ? 1 : 0);
        }
        due("at(50, 1)", x.at(50, 1), 2);
    }

    @Says(in = "Terms", words = "PARENT: of the LINES that HOLD it the one of the greatest DEPTH (-5: none holds it).")
    static void parentsDownToNone() {
        ContourTracer x = ground(NESTED);
        int[] due = {LACKING, 0, 1, 2};
        for (int line = 0; line < 4; line++) {
            due("line(50, " + line + ", 3)", x.line(50, line, 3), due[line]);
        }
        // Two holes in one LAND: both have the LINE round all for a PARENT, not one another.
        x = ground("#####/#.#.#/#####");
        due("line(50, 1, 3)", x.line(50, 1, 3), 0);
        due("line(50, 2, 3)", x.line(50, 2, 3), 0);
        x = ground("#.#/.../...");
        due("side by side: line(50, 1, 3)", x.line(50, 1, 3), LACKING);
    }

    @Says(in = "Terms", words = "for each EDGE of the LINE, in order, X times Y of the next one (behind the last the first) less Y times X of the next one, all together,")
    static void areaTakesTheLastEdgeWithTheFirst() {
        // X, Y: 2 -1, 1 0, 0 1, -1 2, 0 3, 1 2, 2 1, 3 0: 1 + 1 + 1 - 3 - 3 - 3 - 3, and -3 behind the last.
        due("two POINTS over a SADDLE", ofCase(10).line(50, 0, 5), 12);
        // As many eighths as squares have, one less for each corner that is cut, one more for each bay.
        int[] due = {4, 4, 12, 4, 12, 12, 20, 4, 12, 12, 20, 12, 20, 20, 28};
        for (int code = 1; code < 16; code++) {
            due("CASE " + code, ofCase(code).line(50, 0, 5), due[code - 1]);
        }
    }

    @Says(in = "Terms", words = "without its sign (8 times what it holds).")
    static void areaHasNoSign() {
        // Squares of 7, 5, 3, 1 with their corners cut (an eighth each); LINES 1 and 3 go the other way round.
        ContourTracer x = ground(NESTED);
        int[] due = {8 * 49 - 4, 8 * 25 - 4, 8 * 9 - 4, 8 - 4};
        for (int line = 0; line < 4; line++) {
            due("line(50, " + line + ", 5)", x.line(50, line, 5), due[line]);
        }
    }

    @Says(in = "Terms", words = "an EDGE is at X, twice the column of its left (upper) PLACE, and 1 more if it is in a row, and Y, twice the row of that PLACE, and 1 more if it is in a column;")
    static void areaIsTheSameAtEachRim() {
        // X and Y are from -1 (or below) on up to 13: where the POINT lies doesn't matter.
        for (int point : new int[] {0, 6, 24, 42, 48}) {
            ContourTracer x = new ContourTracer();
            x.size(7, 7);
            x.height(point, 50);
            due("line(50, 0, 5) of POINT " + point, x.line(50, 0, 5), 4);
        }
    }

    // ---- the text

    @Says(in = "Terms", words = "A set-up is read from THE TEXT (bytes, 100 at most):")
    static void textOf100Bytes() {
        ContourTracer x = new ContourTracer();
        // Eight CLAUSES of 11 bytes with ; and one of 12 bytes: 100.
        feed(x, "point 01 11;point 2 12;point 3 13;point 4 14;point 5 15;point 6 16;point 7 17;point 08 18;");
        due("count(3)", x.count(3), 90);
        feed(x, "point 9 19");
        due("count(3)", x.count(3), 100);
        due("feed(;)", x.feed(';'), FULL);
        due("count(3)", x.count(3), 100);
        due("read()", x.read(), 9);
        due("of(9)", x.of(9), 19);
    }

    @Says(in = "Terms", words = "CLAUSES, 1 to 12, with ; between (none behind the twelfth),")
    static void clausesFrom1To12() {
        due("none", fault(""), -10);
        due("1", read(new ContourTracer(), "turn"), 1);
        StringBuilder s = new StringBuilder("turn");
        for (int clauses = 2; clauses <= 12; clauses++) {
            s.append(";turn");
            due(clauses + "", read(new ContourTracer(), s.toString()), clauses);
        }
        due("13: the FAULT is the ; behind the twelfth", fault(s + ";turn"), -10 - 59);
        due("a ; behind the twelfth", fault(s + ";"), -10 - 59);
        due("another byte behind the twelfth", fault(s + " "), -10 - 59);
        due("a ; behind the first, none behind it", fault("turn;"), -10 - 5);
        due("two ;", fault("turn;;turn"), -10 - 5);
        due("a ; ahead", fault(";turn"), -10);
        due("no ; between", fault("turnturn"), -10 - 4);
    }

    @Says(in = "Terms", words = "each a WORD and its NUMBERS (1 or 2 digits),")
    static void numbersOf1Or2Digits() {
        ContourTracer x = new ContourTracer();
        due("no digit", read(x, "rule ;turn"), -10 - 5);
        due("1 digit", read(x, "rule 3"), 1);
        due("2 digits", read(x, "rule 04"), 1);
        due("told(2)", x.told(2), 4);
        due("3 digits", read(x, "rule 003"), -10 - 7);
        due("told(2)", x.told(2), 4);
        due("2 digits, the greatest", read(x, "point 35 99"), 1);
        due("of(35)", x.of(35), 99);
        due("the byte ahead of 0", read(x, "rule /"), -10 - 5);
        due("the byte behind 9", read(x, "rule :"), -10 - 5);
        due("the second: the byte ahead of 0", read(x, "rule 0/"), -10 - 6);
        due("the second: the byte behind 9", read(x, "rule 0:"), -10 - 6);
        due("0 and 9", read(x, "point 0 90;point 9 09"), 2);
        due("of(0)", x.of(0), 90);
        due("of(9)", x.of(9), 9);
        due("a NUMBER too many", read(x, "rule 1 1"), -10 - 6);
        due("a NUMBER too few", read(x, "fill 1 1;turn"), -10 - 8);
        due("turn with a NUMBER", read(x, "turn 1"), -10 - 4);
    }

    @Says(in = "Terms", words = "one blank ahead of each NUMBER:")
    static void oneBlankAheadOfANumber() {
        ContourTracer x = new ContourTracer();
        due("none ahead of the first", read(x, "rule1"), -10 - 4);
        due("two ahead of the first", read(x, "rule  1"), -10 - 5);
        due("two ahead of the second", read(x, "point 1  1"), -10 - 8);
        due("another byte", read(x, "point 1\t1"), -10 - 7);
        due("told(3): nothing was done", x.told(3), 0);
    }

    @Says(in = "Terms", words = "size HIGH WIDE (as size());")
    static void clauseSize() {
        ContourTracer x = new ContourTracer();
        x.height(0, 9);
        due("too small", read(x, "size 1 2;size 2 1;size 0 0"), 0);
        due("too large", read(x, "size 8 7;size 7 8;size 99 99"), 0);
        due("told(0)", x.told(0), 6);
        due("of(0)", x.of(0), 9);
        due("the least", read(x, "size 2 2"), 1);
        due("of(3)", x.of(3), 0);
        due("of(4)", x.of(4), NONE);
        due("the greatest", read(x, "size 7 7"), 1);
        due("of(48)", x.of(48), 0);
        due("HIGH ahead of WIDE", read(x, "size 2 7"), 1);
        due("told(0)", x.told(0), 2);
        due("told(1)", x.told(1), 7);
    }

    @Says(in = "Terms", words = "point POINT HEIGHT (as height());")
    static void clausePoint() {
        ContourTracer x = new ContourTracer();
        due("the last POINT, the greatest HEIGHT", read(x, "point 35 99"), 1);
        due("of(35)", x.of(35), 99);
        due("one behind the last", read(x, "point 36 99"), 0);
        due("the first POINT", read(x, "point 0 1"), 1);
        due("HEIGHT 0", read(x, "point 35 0"), 1);
        due("of(35)", x.of(35), 0);
        due("told(3)", x.told(3), 1);
    }

    @Says(in = "Terms", words = "(all POINTS in the rows from the first one's to the second one's and the columns from the first one's to the second one's get that HEIGHT;")
    static void clauseFill() {
        ContourTracer x = new ContourTracer();
        x.size(3, 4);
        due("a box", read(x, "fill 1 6 9"), 1);
        alike("a box", drawn(x, 9), ".##./.##./....");
        due("one POINT", read(x, "fill 11 11 9"), 1);
        alike("one POINT", drawn(x, 9), ".##./.##./...#");
        due("HEIGHTS that were greater", read(x, "fill 0 5 3"), 1);
        alike("HEIGHTS that were greater", heights(x), "3 3 9 0 3 3 9 0 0 0 0 9");
        due("all", read(x, "fill 0 11 99"), 1);
        due("at(99, 3)", x.at(99, 3), 12);
        due("all, HEIGHT 0", read(x, "fill 0 11 0"), 1);
        due("told(3)", x.told(3), 0);
    }

    @Says(in = "Terms", words = "it is refused, if there is no such POINT, or a row or a column of the second is less than that of the first);")
    static void clauseFillRefused() {
        ContourTracer x = new ContourTracer();
        x.size(3, 4);
        due("no first POINT", read(x, "fill 12 11 9"), 0);
        due("no second POINT", read(x, "fill 0 12 9"), 0);
        due("neither", read(x, "fill 12 12 9"), 0);
        due("a row less", read(x, "fill 5 2 9"), 0);
        due("a row less, the same column", read(x, "fill 5 1 9"), 0);
        due("a column less", read(x, "fill 2 5 9"), 0);
        due("a column less, the same row", read(x, "fill 2 1 9"), 0);
        due("told(3)", x.told(3), 0);
        due("the same column", read(x, "fill 1 5 9"), 1);
        due("the same row", read(x, "fill 1 2 9"), 1);
        alike("picture", drawn(x, 9), ".##./.#../....");
    }

    @Says(in = "Terms", words = "gets HEIGHT less N times k, if that is more than the HEIGHT it has;")
    static void clauseHill() {
        ContourTracer x = new ContourTracer();
        x.size(3, 3);
        due("hill", read(x, "hill 4 30 15"), 1);
        alike("30 at k 0, 15 at k 1, 0 at k 2", heights(x), "0 15 0 15 30 15 0 15 0");
        due("as much as it has, and less", read(x, "hill 4 29 1"), 1);
        alike("the summit stays", heights(x), "27 28 27 28 30 28 27 28 27");
        due("below 0", read(x, "size 3 3;hill 0 99 99"), 2);
        alike("no HEIGHT below 0", heights(x), "99 0 0 0 0 0 0 0 0");
        due("N 0", read(x, "hill 8 5 0"), 1);
        alike("N 0", heights(x), "99 5 5 5 5 5 5 5 5");
        due("from the last corner", read(x, "size 2 3;hill 5 10 3"), 2);
        alike("from the last corner", heights(x), "1 4 7 4 7 10");
    }

    @Says(in = "Terms", words = "it is refused, if there is no such POINT); rule KIND (as rule());")
    static void clauseHillAndRuleRefused() {
        ContourTracer x = new ContourTracer();
        x.size(2, 2);
        due("hill of the last POINT", read(x, "hill 3 9 9"), 1);
        due("hill of one behind", read(x, "hill 4 90 0"), 0);
        alike("heights", heights(x), "0 0 0 9");
        due("the greatest KIND", read(x, "rule 4"), 1);
        due("one more", read(x, "rule 5;rule 99"), 0);
        due("told(2)", x.told(2), 4);
        due("the least KIND", read(x, "rule 0"), 1);
        due("told(2)", x.told(2), 0);
    }

    @Says(in = "Terms", words = "turn (each HEIGHT becomes 99 less it).")
    static void clauseTurn() {
        ContourTracer x = new ContourTracer();
        x.size(2, 2);
        x.height(1, 99);
        x.height(2, 49);
        x.height(3, 50);
        due("turn", read(x, "turn"), 1);
        alike("heights", heights(x), "99 0 50 49");
    }

    @Says(in = "Terms", words = "Nothing else stands between.")
    static void nothingElseStandsBetween() {
        ContourTracer x = new ContourTracer();
        due("a blank ahead", read(x, " turn"), -10);
        due("a blank behind", read(x, "turn "), -10 - 4);
        due("a blank ahead of ;", read(x, "rule 1 ;turn"), -10 - 6);
        due("a blank behind ;", read(x, "turn; turn"), -10 - 5);
        due("a line's end behind", read(x, "turn\n"), -10 - 4);
        due("a byte 0 ahead", read(x, "\0turn"), -10);
        due("a byte 0 behind", read(x, "turn\0"), -10 - 4);
        due("a comma", read(x, "point 1,1"), -10 - 7);
        due("a sign", read(x, "point -1 1"), -10 - 6);
        due("a capital", read(x, "Turn"), -10);
        due("count(3)", x.count(3), 0);
        due("told(3)", x.told(3), 0);
    }

    @Says(in = "Terms", words = "The FAULT: the place of the first byte with which none begins so (the end of THE TEXT, if it ends too early).")
    static void theFaultsPlace() {
        for (String word : new String[] {"size 2 2", "point 1 1", "fill 1 2 3", "hill 1 2 3", "rule 1", "turn"}) {
            int letters = word.indexOf(' ') < 0 ? word.length() : word.indexOf(' ');
            for (int end = 0; end < word.length(); end++) {
                due("'" + word.substring(0, end) + "' ends too early", fault(word.substring(0, end)), -10 - end);
                due("behind ;, it ends too early", fault("turn;" + word.substring(0, end)), -15 - end);
                String other = word.substring(0, end) + "?" + word.substring(end + 1);
                due("'" + other + "'", fault(other), -10 - end);
                if (end < letters) {
                    due("a capital", fault(word.substring(0, end) + Character.toUpperCase(word.charAt(end))), -10 - end);
                }
            }
            due("'" + word + "?'", fault(word + "?"), -10 - word.length());
        }
        due("begun as one WORD, ended as another", fault("fule 1"), -11);
        due("begun as one WORD, ended as another", fault("hize 2 2"), -12);
        StringBuilder full = new StringBuilder();
        for (int i = 0; i < 9; i++) {
            full.append("point 0 99;");
        }
        due("100 bytes that end too early", fault(full + "p"), -110);
        due("100 bytes, the last one isn't as told", fault(full + "?"), -109);
        full.setLength(88);
        due("100 bytes that end with ;", fault(full + "point 01 10;"), -110);
    }

    @Says(in = "Terms", words = "Without it they are done, one behind the other; those that would be refused aren't.")
    static void refusedClausesAreLeftOut() {
        ContourTracer x = new ContourTracer();
        due("the others are done", read(x, "size 2 2;point 4 9;point 3 9;size 8 8;rule 5;rule 2"), 3);
        alike("heights", heights(x), "0 0 0 9");
        due("told(2)", x.told(2), 2);
        due("what comes first tells what is refused", read(x, "point 5 1;size 2 3;point 5 2;size 2 2;point 5 3"), 3);
        due("told(1)", x.told(1), 2);
        due("all refused", read(x, "point 4 1;fill 4 4 4;hill 4 4 4"), 0);
        due("with a FAULT at the end none is done", read(x, "point 0 77;point 1 77;"), -10 - 22);
        due("told(3)", x.told(3), 0);
    }

    // ---- lands

    @Says(in = "Terms", words = "LANDS of a LEVEL: POINTS that are IN and hang together by EDGES, or over a SADDLE that is JOINED;")
    static void landsByEdgesAndJoinedSaddles() {
        ContourTracer x = ground(CHECKERED);
        due("all JOINED", x.at(50, 2), 1);
        due("all JOINED, the last POINT", x.land(50, 48), 0);
        x.rule(1);
        due("all PARTED: the most there are", x.at(50, 2), 25);
        due("all PARTED, the last POINT", x.land(50, 48), 24);
        due("none is IN", x.at(51, 2), 0);
        due("all are IN", x.at(0, 2), 1);
        x = ground("##/##");
        x.rule(1);
        due("by EDGES", x.at(50, 2), 1);
        x = ground("##/.#");
        x.rule(1);
        due("round a corner", x.at(50, 2), 1);
    }

    @Says(in = "Terms", words = "numbered from 0 by their least POINTS; SIZE: how many POINTS; TOP: the greatest HEIGHT;")
    static void landsByLeastPointsWithSizeAndTop() {
        ContourTracer x = ground("..#.#/#.#.#/#...#");
        x.height(12, 99);
        x.height(14, 98);
        due("land(50, 2)", x.land(50, 2), 0);
        due("land(50, 4)", x.land(50, 4), 1);
        due("land(50, 5)", x.land(50, 5), 2);
        due("land(50, 0)", x.land(50, 0), LACKING);
        int[][] due = {{2, 3, 99}, {4, 3, 98}, {5, 2, 50}};
        for (int land = 0; land < 3; land++) {
            for (int what = 0; what < 3; what++) {
                due("landOf(50, " + land + ", " + what + ")", x.landOf(50, land, what), due[land][what]);
            }
        }
        due("another LAND, of one POINT", x.landOf(99, 0, 1), 1);
        due("its TOP is its LEVEL", x.landOf(99, 0, 2), 99);
        due("landOf(50, 3, 0)", x.landOf(50, 3, 0), NONE);
        x.size(7, 7);
        due("SIZE of all", x.landOf(0, 0, 1), 49);
        due("TOP of 0", x.landOf(0, 0, 2), 0);
    }

    @Says(in = "Terms", words = "HOLES: how many LINES that aren't OUTER have an EDGE one PLACE of which is of the LAND.")
    static void holesFromNoneOn() {
        due("none", ground("###/###/###").landOf(50, 0, 3), 0);
        due("a bay is none", ground("###/#.#/#.#").landOf(50, 0, 3), 0);
        due("one", ground("###/#.#/###").landOf(50, 0, 3), 1);
        due("two", ground("#####/#.#.#/#####").landOf(50, 0, 3), 2);
        due("two OUT over a JOINED SADDLE", ground("####/#.##/##.#/####").landOf(50, 0, 3), 2);
        ContourTracer x = ground("####/#.##/##.#/####");
        x.rule(1);
        due("one over a PARTED SADDLE", x.landOf(50, 0, 3), 1);
        x = ground(NESTED);
        due("of the outer LAND: not that of the inner one", x.landOf(50, 0, 3), 1);
        due("of the inner LAND: not the moat", x.landOf(50, 1, 3), 1);
        x = ground("#####/#...#/#.#.#/#...#/#####");
        due("an island has none", x.landOf(50, 1, 3), 0);
        due("12 of one", ground(CHECKERED).landOf(50, 0, 3), 12);
    }

    @Says(in = "Terms", words = "PASS of two POINTS: the greatest LEVEL by which both are of one LAND")
    static void passUpToTheLesserHeight() {
        ContourTracer x = made("size 2 3;point 0 98;point 1 99");
        due("next to one another", x.pass(0, 1), 98);
        due("the other way round", x.pass(1, 0), 98);
        due("down to 0", x.pass(0, 5), 0);
        x.height(2, 99);
        due("both 99", x.pass(1, 2), 99);
        due("over one of 98", made("size 2 3;point 0 99;point 1 98;point 2 99").pass(0, 2), 98);
        x = made("size 2 2;point 0 60;point 3 50");
        due("over a JOINED SADDLE", x.pass(0, 3), 50);
        x.rule(1);
        due("over a PARTED SADDLE", x.pass(0, 3), 0);
        x.rule(2);
        due("over one that is JOINED up to 27", x.pass(0, 3), 27);
        x.rule(4);
        // By LEVEL 27: 33 * 23 is 759, 27 * 27 is 729; by LEVEL 28: 32 * 22 is 704, 28 * 28 is 784.
        due("over one that CROSS joins up to 27", x.pass(0, 3), 27);
    }

    @Says(in = "Terms", words = "(of a POINT and itself: its HEIGHT).")
    static void passOfAPointAndItself() {
        ContourTracer x = made("size 2 2;point 1 99;point 2 1");
        due("pass(0, 0) of HEIGHT 0", x.pass(0, 0), 0);
        due("pass(1, 1) of HEIGHT 99", x.pass(1, 1), 99);
        due("pass(2, 2) of HEIGHT 1", x.pass(2, 2), 1);
    }

    @Says(in = "Terms", words = "OUT STANDS a POINT by its HEIGHT less the greatest PASS of it and of any POINT of greater HEIGHT")
    static void standsByTheGreatestPass() {
        ContourTracer x = made("size 2 5;point 0 60;point 1 10;point 2 50;point 3 30;point 4 51");
        due("by 50 less 30, not less 10", x.stands(2), 20);
        due("one more is greater", made("size 2 3;point 0 50;point 1 20;point 2 51").stands(0), 30);
        due("by 50 less 21", made("size 2 3;point 0 50;point 1 21;point 2 51").stands(0), 29);
        due("by 1", made("size 2 3;point 0 99;point 1 97;point 2 98").stands(2), 1);
        due("as much is not greater", made("size 2 3;point 0 50;point 1 20;point 2 50").stands(0), 50);
        due("a neighbour is greater", x.stands(1), 0);
        due("only 0 is between", made("size 2 3;point 0 99;point 2 98").stands(2), 98);
        x = made("size 2 2;point 0 98;point 3 99");
        due("over a JOINED SADDLE", x.stands(0), 0);
        x.rule(1);
        due("over a PARTED SADDLE", x.stands(0), 98);
    }

    @Says(in = "Terms", words = "(by its HEIGHT, if there is none).")
    static void standsByItsHeightIfNoneIsGreater() {
        ContourTracer x = made("size 2 3;point 0 99;point 1 98;point 2 99");
        due("stands(0)", x.stands(0), 99);
        due("stands(2)", x.stands(2), 99);
        due("stands(1)", x.stands(1), 0);
        due("all 0", new ContourTracer().stands(0), 0);
        due("all 99", made("fill 0 35 99").stands(35), 99);
    }

    // ---- the tree

    @Says(in = "Terms", words = "THE TREE by a STEP s (1 .. 50):")
    static void stepsFrom1To50() {
        ContourTracer x = made("size 2 2;fill 0 3 99");
        due("tree(0, 0)", x.tree(0, 0), BAD);
        due("tree(1, 0)", x.tree(1, 0), 100);
        due("tree(50, 0)", x.tree(50, 0), 2);
        due("tree(51, 0)", x.tree(51, 0), BAD);
    }

    @Says(in = "Terms", words = "LANDS of LEVELS 0, s, 2 s, .. (the last one 99 at most), all together: NODES;")
    static void levelsOfTheTreeUpTo99() {
        ContourTracer x = made("size 2 2;fill 0 3 99");
        due("0, 33, 66, 99", x.tree(33, 0), 4);
        due("0, 34, 68, not 102", x.tree(34, 0), 3);
        due("0, 49, 98", x.tree(49, 0), 3);
        due("0, 50, not 100", x.tree(50, 0), 2);
        due("0, 11, .. 99", x.tree(11, 0), 10);
        x = made("size 2 2;fill 0 3 98");
        due("0, 33, 66, none by 99", x.tree(33, 0), 3);
        x = new ContourTracer();
        due("0 alone", x.tree(1, 0), 1);
        x = ground(CHECKERED);
        x.rule(1);
        due("1 by 0, 25 by 50", x.tree(50, 0), 26);
    }

    @Says(in = "Terms", words = {"a LAND lies IN the LAND of the LEVEL ahead that has its POINTS;",
        "LEAVES: LANDS in which none of the next LEVEL lies (those of the last LEVEL all are);"})
    static void leaves() {
        due("flat: the LAND of LEVEL 0", new ContourTracer().tree(50, 1), 1);
        ContourTracer x = made("size 2 2;fill 0 3 99");
        due("those of the last LEVEL, 99", x.tree(1, 1), 1);
        due("those of the last LEVEL, 50", x.tree(50, 1), 1);
        // 3 peaks by LEVEL 50, one of them ends by LEVEL 60.
        x = made("size 2 5;point 0 50;point 2 60;point 4 60");
        due("LEVEL 50 is the last one", x.tree(50, 1), 3);
        due("an end by 50, two by 60", x.tree(10, 1), 3);
        due("an end by 50 is none by 25", x.tree(25, 1), 3);
        due("NODES by 10: 1, 5 times 3, 2", x.tree(10, 0), 18);
        x.height(0, 49);
        due("it ends by 49", x.tree(50, 1), 2);
    }

    @Says(in = "Terms", words = "FORKS: LANDS in which two or more of the next LEVEL lie.")
    static void forksFromTwoOn() {
        due("none", new ContourTracer().tree(1, 2), 0);
        ContourTracer x = made("size 2 5;point 0 60");
        due("one is no FORK", x.tree(10, 2), 0);
        x.height(2, 60);
        due("two are one", x.tree(10, 2), 1);
        x.height(4, 60);
        due("three are one", x.tree(10, 2), 1);
        due("three by the last LEVEL", x.tree(50, 2), 1);
        x.height(1, 30);
        // By LEVEL 0 two lie in one, by LEVEL 30 two in the one of POINTS 0 and 2.
        due("a FORK behind a FORK", x.tree(10, 2), 2);
        due("both at once by 50", x.tree(50, 2), 1);
    }

    // ---- volumes, pictures

    @Says(in = "Terms", words = "VOLUME of a LEVEL: of all SQUARES whose four PLACES are POINTS, by how much HEIGHTS of the four are above the LEVEL")
    static void volumeOfSquaresOfPointsAlone() {
        ContourTracer x = made("size 2 2;fill 0 3 99");
        due("one SQUARE, not those at the rim", x.at(0, 6), 4 * 99);
        due("as high as the LEVEL is not above", x.at(99, 6), 0);
        due("one above", x.at(98, 6), 4);
        x = made("size 7 7;fill 0 48 99");
        due("36 SQUARES", x.at(0, 6), 36 * 4 * 99);
        x = made("size 3 4;point 0 10");
        due("a corner: 1 SQUARE", x.at(0, 6), 10);
        x.height(0, 0);
        x.height(11, 10);
        due("the last corner: 1 SQUARE", x.at(0, 6), 10);
        x.height(11, 0);
        x.height(3, 10);
        due("the right corner: 1 SQUARE", x.at(0, 6), 10);
        x.height(3, 0);
        x.height(7, 10);
        due("the right rim: 2 SQUARES", x.at(0, 6), 20);
        x.height(7, 0);
        x.height(10, 10);
        due("the lower rim: 2 SQUARES", x.at(0, 6), 20);
        x.height(10, 0);
        x.height(6, 10);
        due("inside: 4 SQUARES", x.at(0, 6), 40);
    }

    @Says(in = "Terms", words = "(each by itself; 0, if one isn't), all together.")
    static void volumeTakesNothingOffForOneBelow() {
        ContourTracer x = made("size 2 2;point 0 50;point 1 10");
        due("30, nothing off for 10 and 0", x.at(20, 6), 30);
        due("none above", x.at(50, 6), 0);
        due("one above by 1", x.at(49, 6), 1);
        due("both by LEVEL 0", x.at(0, 6), 60);
    }

    @Says(in = "Terms", words = "HALF: the greatest LEVEL by which twice VOLUME is VOLUME of LEVEL 0 or more (99, if that is 0).")
    static void half() {
        ContourTracer x = new ContourTracer();
        x.size(2, 2);
        due("VOLUME 0", x.told(5), 99);
        int[][] due = {{1, 0}, {2, 1}, {3, 1}, {10, 5}, {11, 5}, {98, 49}, {99, 49}};
        for (int[] d : due) {
            x.height(0, d[0]);
            due("told(5) of " + d[0], x.told(5), d[1]);
        }
        // 99 and 33: 132 at LEVEL 0, by LEVEL 33 there are 66.
        x.height(3, 33);
        due("just as much", x.told(5), 33);
        x.height(2, 1);
        due("one more", x.told(5), 32);
    }

    @Says(in = "Terms", words = "BUSY: the LEVEL with most LINES, of several the least.")
    static void busyIsTheLeastOfSeveral() {
        ContourTracer x = new ContourTracer();
        due("flat: LEVEL 0", x.told(6), 0);
        x = made("size 2 3;fill 0 5 98;point 0 99;point 2 99");
        due("the last LEVEL", x.told(6), 99);
        due("two LINES", x.told(7), 2);
        x = made("size 2 3;point 0 50;point 2 50");
        due("1 .. 50 are alike", x.told(6), 1);
        x = made("size 2 3;fill 0 5 7;point 0 50;point 2 9");
        due("8 .. 9 are alike", x.told(6), 8);
        x = made("fill 0 35 99");
        due("all are alike", x.told(6), 0);
        // By MEAN a SADDLE of 120 is PARTED from LEVEL 31 on.
        x = made("size 2 2;point 0 60;point 3 60;rule 2");
        due("PARTED by MEAN", x.told(6), 31);
        due("PARTED by MEAN, two", x.told(7), 2);
    }

    @Says(in = "Terms", words = "PICTURE of a LEVEL: row by row, a sign for each POINT: # it is IN, . it is OUT; between two rows /.")
    static void pictureHasNoSlashBehindTheLastRow() {
        ContourTracer x = ground("#./.#");
        due("picture(50, 0)", x.picture(50, 0), '#');
        due("picture(50, 1)", x.picture(50, 1), '.');
        due("picture(50, 2)", x.picture(50, 2), '/');
        due("picture(50, 3)", x.picture(50, 3), '.');
        due("picture(50, 4): the last sign", x.picture(50, 4), '#');
        due("picture(50, 5)", x.picture(50, 5), LACKING);
        alike("2 by 7", drawn(ground("#.....#/.#...#."), 50), "#.....#/.#...#.");
        alike("7 by 2", drawn(ground("#./.#/../##/../.#/#."), 50), "#./.#/../##/../.#/#.");
        due("7 by 2: behind the last", ground("../../../../../../..").picture(0, 20), LACKING);
        due("7 by 2: the last", ground("../../../../../../..").picture(0, 19), '#');
    }

    @Says(in = "Terms", words = "WAYS of a LINE: u, d, r, l, as it goes, from its least EDGE on.")
    static void waysFromTheLeastEdgeOn() {
        alike("one POINT, the first", walked(ground("#./.."), 50, 0), "ldru");
        alike("one POINT, the last", walked(ground("../.#"), 50, 0), "ldru");
        due("behind the last", ground("../.#").ways(50, 0, 4), LACKING);
        alike("a hole", walked(ground("###/#.#/###"), 50, 1), "rdlu");
        alike("all of 2 by 7", walked(ground("#######/#######"), 50, 0), "ldd" + "rrrrrrr" + "uu" + "llllll");
    }

    // ---- seen, odds, events, books

    @Says(in = "Terms", words = "SEEN told by hand: a POINT, whether it was IN (1) or OUT (0) (6 rows at most).")
    static void sixRowsOfSeen() {
        ContourTracer x = made("size 2 2;point 0 50");
        due("see(0, 2)", x.see(0, 2), BAD);
        due("see(0, -1)", x.see(0, -1), BAD);
        due("see(0, 1)", x.see(0, 1), 1);
        due("IN by 0 .. 50", x.fits(0), 51);
        due("see(1, 0)", x.see(1, 0), 2);
        due("OUT by 1 .. 99", x.fits(0), 50);
        for (int i = 3; i <= 6; i++) {
            due("see(0, 1)", x.see(0, 1), i);
        }
        due("the seventh", x.see(0, 0), FULL);
        due("count(0)", x.count(0), 6);
        due("fits(0)", x.fits(0), 50);
    }

    @Says(in = "Terms", words = "FITS: how many LEVELS there are by which all of SEEN is so (all 100 without SEEN);")
    static void fitsFromNoneToAll() {
        ContourTracer x = made("size 2 2;point 0 99;point 1 49;point 2 50");
        due("without SEEN", x.fits(0), 100);
        x.see(0, 1);
        due("IN by all", x.fits(0), 100);
        x.see(1, 0);
        due("OUT by 50 .. 99", x.fits(0), 50);
        x.see(2, 1);
        due("by 50 alone", x.fits(0), 1);
        due("it is 50", x.fits(1), 50);
        x.see(1, 1);
        due("the same IN and OUT", x.fits(0), 0);
        x.see(-1, 0);
        x.see(0, 0);
        due("99 is never OUT", x.fits(0), 0);
        x.see(-1, 0);
        x.see(3, 1);
        due("0 is IN by LEVEL 0", x.fits(0), 1);
        x.see(-1, 0);
        x.see(3, 0);
        due("0 is OUT by 1 .. 99", x.fits(0), 99);
    }

    @Says(in = "Terms", words = "the least (-5: none).")
    static void theLeastThatFits() {
        ContourTracer x = made("size 2 2;point 0 98;point 1 99");
        due("without SEEN", x.fits(1), 0);
        x.see(0, 0);
        due("98 is OUT by 99 alone", x.fits(1), 99);
        x.see(1, 1);
        due("99 is IN", x.fits(1), 99);
        x.see(1, 0);
        due("99 is never OUT", x.fits(1), LACKING);
        x.see(-1, 0);
        x.see(3, 0);
        due("0 is OUT from 1 on", x.fits(1), 1);
        x.see(3, 1);
        due("not IN and OUT at once", x.fits(1), LACKING);
    }

    @Says(in = "Terms", words = "ODDS of a POINT: LEVELS being alike likely, how likely it is IN: a fraction in lowest terms.")
    static void oddsInLowestTerms() {
        ContourTracer x = new ContourTracer();
        int[][] due = {{0, 1, 100}, {1, 1, 50}, {2, 3, 100}, {3, 1, 25}, {4, 1, 20}, {9, 1, 10}, {19, 1, 5}, {24, 1, 4},
            {49, 1, 2}, {74, 3, 4}, {79, 4, 5}, {95, 24, 25}, {98, 99, 100}, {99, 1, 1}};
        for (int[] d : due) {
            x.height(35, d[0]);
            due("above, HEIGHT " + d[0], x.odds(35, 0), d[1]);
            due("below, HEIGHT " + d[0], x.odds(35, 1), d[2]);
        }
    }

    @Says(in = "Terms", words = "MEAN: LINES of all LEVELS, together, by 100: a fraction in lowest terms.")
    static void meanInLowestTerms() {
        ContourTracer x = new ContourTracer();
        due("1: above", x.mean(0), 1);
        due("1: below", x.mean(1), 100);
        x.height(0, 99);
        due("100: above", x.mean(0), 1);
        due("100: below", x.mean(1), 1);
        x.height(7, 99);
        x.rule(1);
        due("199: above", x.mean(0), 199);
        due("199: below", x.mean(1), 100);
        x.height(7, 50);
        due("150: above", x.mean(0), 3);
        due("150: below", x.mean(1), 2);
        x.height(14, 50);
        due("200: above", x.mean(0), 2);
        due("200: below", x.mean(1), 1);
        x = ground(CHECKERED);
        x.rule(1);
        // 1 and 50 times 25 are 1251.
        due("1251: above", x.mean(0), 1251);
        due("1251: below", x.mean(1), 100);
    }

    @Says(in = "Terms", words = "(0 POINT n is 10 higher, 99 at most;")
    static void raisedTo99AtMost() {
        int[][] due = {{0, 10}, {88, 98}, {89, 99}, {90, 99}, {99, 99}};
        for (int[] d : due) {
            ContourTracer x = new ContourTracer();
            x.size(2, 2);
            x.height(3, d[0]);
            x.event(0, 3);
            due(d[0] + " raised", x.after(0, 2), d[1]);
        }
        ContourTracer x = new ContourTracer();
        for (int i = 0; i < 8; i++) {
            x.event(0, 0);
        }
        due("eight times, one behind the other", x.after(0, 2), 80);
        x.height(0, 20);
        due("eight times from 20 on", x.after(0, 2), 99);
    }

    @Says(in = "Terms", words = "1 POINT n has HEIGHT 0;")
    static void levelledTo0() {
        ContourTracer x = made("size 2 2;fill 0 3 99;point 0 0");
        x.event(1, 3);
        due("of 99", x.after(0, 2), 198);
        x.event(1, 0);
        due("of 0", x.after(0, 2), 198);
    }

    @Says(in = "Terms", words = "2 all POINTS are n lower (0 .. 99), 0 at least;")
    static void loweredTo0AtLeast() {
        ContourTracer x = made("size 2 2;point 0 5;point 1 6;point 2 7;point 3 99");
        due("event(2, 100)", x.event(2, 100), BAD);
        due("event(2, -1)", x.event(2, -1), BAD);
        x.event(2, 0);
        due("0 lower", x.after(0, 2), 117);
        x.event(2, 6);
        due("6 lower: 0, 0, 1, 93", x.after(0, 2), 94);
        x.event(2, 99);
        due("99 lower", x.after(0, 2), 0);
        x.event(0, 0);
        due("10 higher than 0", x.after(0, 2), 10);
    }

    @Says(in = "Terms", words = "3 THE RULE becomes of KIND n; 4 each HEIGHT becomes 99 less it (n 0);")
    static void ruledAndTurned() {
        ContourTracer x = ground("#./.#");
        due("event(4, 1)", x.event(4, 1), BAD);
        due("event(4, -1)", x.event(4, -1), BAD);
        due("event(3, 5)", x.event(3, 5), BAD);
        due("event(3, -1)", x.event(3, -1), BAD);
        due("event(3, 4)", x.event(3, 4), 1);
        due("CROSS by 50: 0 * 0 and 50 * 50", x.after(50, 0), 2);
        due("event(3, 0)", x.event(3, 0), 2);
        due("ALL", x.after(50, 0), 1);
        due("event(4, 0)", x.event(4, 0), 3);
        due("49 twice, 99 twice", x.after(0, 2), 296);
        due("none above 99", x.after(99, 2), 0);
        due("two by 99, JOINED", x.after(99, 1), 1);
        due("of(0)", x.of(0), 50);
    }

    @Says(in = "Terms", words = "8 rows at most): AFTER, behind all of it (POINTS that are no more: nothing),")
    static void eightRowsOfEvents() {
        ContourTracer x = new ContourTracer();
        for (int i = 1; i <= 8; i++) {
            due("event(0, 35)", x.event(0, 35), i);
        }
        due("the ninth", x.event(0, 35), FULL);
        due("count(1)", x.count(1), 8);
        due("behind all eight", x.after(0, 2), 80);
        x.size(5, 7);
        due("POINT 35 is no more", x.after(0, 2), 0);
        due("POINT 35 is no more: LINES", x.after(1, 0), 0);
        due("POINT 35 is no more: LANDS", x.after(1, 1), 0);
        due("EVENTS stay", x.count(1), 8);
        x = new ContourTracer();
        x.size(7, 7);
        x.event(0, 48);
        x.event(1, 48);
        x.size(2, 2);
        due("POINT 48 is far beyond: LINES", x.after(0, 0), 1);
        due("POINT 48 is far beyond: VOLUME", x.after(0, 2), 0);
        x = new ContourTracer();
        x.event(1, 4);
        x.event(0, 3);
        x.size(2, 2);
        x.height(3, 7);
        due("POINT 4 is no more, POINT 3 still is", x.after(0, 2), 17);
    }

    @Says(in = "Terms", words = "by a LEVEL: how many LINES; how many LANDS; VOLUME.")
    static void afterByTheFirstAndTheLastLevel() {
        ContourTracer x = ground("##/##");
        x.event(4, 0);
        due("after(0, 0)", x.after(0, 0), 1);
        due("after(0, 1)", x.after(0, 1), 1);
        due("after(49, 2)", x.after(49, 2), 0);
        due("after(49, 1)", x.after(49, 1), 1);
        due("after(50, 1)", x.after(50, 1), 0);
        due("after(99, 0)", x.after(99, 0), 0);
    }

    @Says(in = "Terms", words = "A BOOK told by hand: POINTS, HEIGHTS (8 rows at most):")
    static void eightRowsOfTheBook() {
        ContourTracer x = new ContourTracer();
        for (int i = 1; i <= 8; i++) {
            due("book(35, 0)", x.book(35, 0), i);
        }
        due("the ninth", x.book(35, 1), FULL);
        due("count(2)", x.count(2), 8);
        due("the ninth is not looked at", x.looked(), LACKING);
    }

    @Says(in = "Terms", words = {"LOOKED at: the number (from 0) of the first of these rows whose POINT isn't there, or has another HEIGHT now",
        "(-5: none). THE IMAGE"})
    static void lookedAtTheFirstThatIsOther() {
        ContourTracer x = made("size 2 3;point 5 99");
        due("an empty BOOK", x.looked(), LACKING);
        x.book(5, 99);
        due("none is other", x.looked(), LACKING);
        x.book(0, 0);
        x.book(4, 0);
        x.height(4, 1);
        due("the last row", x.looked(), 2);
        x.height(0, 1);
        due("the row ahead of it", x.looked(), 1);
        x.height(5, 98);
        due("the first row", x.looked(), 0);
        x.height(5, 99);
        x.height(0, 0);
        x.height(4, 0);
        due("none is other again", x.looked(), LACKING);
        x.size(2, 2);
        due("POINT 5 isn't there", x.looked(), 0);
        x.book(-1, 0);
        x.size(3, 3);
        x.book(3, 0);
        x.book(4, 0);
        x.size(2, 2);
        due("POINT 3 still is, POINT 4 isn't there", x.looked(), 1);
    }

    @Says(in = "Terms", words = "THE IMAGE: HIGH, WIDE, HEIGHTS, THE RULE, SEEN, EVENTS, the BOOK.")
    static void theImageHasAllOfIt() {
        ContourTracer x = made("size 2 7;point 13 42;rule 4");
        x.see(13, 0);
        x.event(0, 13);
        x.book(13, 42);
        x.image();
        String then = held(x);
        read(x, "size 7 2;point 13 43;rule 1");
        x.see(-1, 0);
        x.see(0, 1);
        x.event(-1, 0);
        x.event(4, 0);
        x.book(-1, 0);
        x.book(0, 9);
        x.undo();
        alike("all that is held", held(x), then);
        due("fits(1): SEEN's POINT and whether", x.fits(1), 43);
        due("after(0, 2): the EVENT's what and n", x.after(0, 2), 52);
        x = new ContourTracer();
        fillUp(x);
        x.image();
        String full = held(x);
        x.see(-1, 0);
        x.event(-1, 0);
        x.book(-1, 0);
        x.book(0, 9);
        x.undo();
        alike("an IMAGE with as much as there may be", held(x), full);
        x = new ContourTracer();
        x.image();
        String empty = held(x);
        x.see(0, 0);
        x.event(0, 0);
        x.book(0, 1);
        x.undo();
        alike("an IMAGE without SEEN, EVENTS, a BOOK", held(x), empty);
    }

    // ---- tapes

    @Says(in = "Terms", words = "TAPES 0 .. 5 hold nothing (at first), or a row of 0 bytes, 1 shorts, 2 ints, 3 longs, 4 booleans (items 0, 1).")
    static void sixTapesOfFiveSorts() {
        ContourTracer x = new ContourTracer();
        for (int tape = 0; tape <= 5; tape++) {
            due("peek(" + tape + ", 0) at first", x.peek(tape, 0), NO);
            due("item(" + tape + ", 0, 0) at first", x.item(tape, 0, 0), NOTHING);
        }
        due("tape(6, 0, 1)", x.tape(6, 0, 1), NONE);
        due("tape(-1, 0, 1)", x.tape(-1, 0, 1), NONE);
        due("tape(5, -2, 1)", x.tape(5, -2, 1), BAD);
        due("tape(5, 5, 1)", x.tape(5, 5, 1), BAD);
        long[] least = {Byte.MIN_VALUE, Short.MIN_VALUE, Integer.MIN_VALUE, Long.MIN_VALUE};
        long[] greatest = {Byte.MAX_VALUE, Short.MAX_VALUE, Integer.MAX_VALUE, Long.MAX_VALUE};
        for (int sort = 0; sort < 4; sort++) {
            due("tape(5, " + sort + ", 2)", x.tape(5, sort, 2), 1);
            x.item(5, 0, least[sort]);
            x.item(5, 1, greatest[sort]);
            due("the least of sort " + sort, x.peek(5, 0), least[sort]);
            due("the greatest of sort " + sort, x.peek(5, 1), greatest[sort]);
        }
        due("tape(5, 4, 2)", x.tape(5, 4, 2), 1);
        x.item(5, 0, -1);
        x.item(5, 1, 2);
        due("a boolean of -1", x.peek(5, 0), 1);
        due("a boolean of 2", x.peek(5, 1), 1);
    }

    /** A TAPE of bytes, told one by one. */
    private static void tell(ContourTracer x, int tape, int... bytes) {
        x.tape(tape, 0, bytes.length);
        for (int i = 0; i < bytes.length; i++) {
            x.item(tape, i, bytes[i]);
        }
    }

    @Says(in = "Terms", words = "are JUDGED: the first that is otherwise (the POINT, counted from 0 from that place on);")
    static void judgedByTheFirstThatIsOtherwise() {
        ContourTracer x = made("size 2 2;point 0 1;point 3 99");
        tell(x, 0, 7, 7, 1, 0, 0, 99);
        due("from 0 on: the first", x.judge(0, 0), 0);
        x.item(0, 3, 1);
        x.item(0, 5, 98);
        due("from 2 on: the second, not the fourth too", x.judge(0, 2), 1);
        x.item(0, 3, 0);
        due("from 2 on: the fourth", x.judge(0, 2), 3);
        tell(x, 1, 1, 0, 0, 99 - 256);
        due("lowest bits alone make a byte", x.judge(1, 0), LACKING);
        tell(x, 1, 1, 0, 0, -99);
        due("a byte of -99 is otherwise", x.judge(1, 0), 3);
    }

    @Says(in = "Terms", words = "from that place on); -5: none;")
    static void judgedAsItIs() {
        ContourTracer x = made("size 2 2;point 0 1;point 3 99");
        tell(x, 0, 1, 0, 0, 99);
        due("the row ends with the last POINT", x.judge(0, 0), LACKING);
        tell(x, 0, 1, 0, 0, 99, 5);
        due("the row goes on", x.judge(0, 0), LACKING);
        tell(x, 0, 5, 1, 0, 0, 99);
        due("from 1 on", x.judge(0, 1), LACKING);
        x = new ContourTracer();
        x.size(7, 7);
        x.tape(5, 0, 60);
        due("49 POINTS from 11 on", x.judge(5, 11), LACKING);
    }

    @Says(in = "Terms", words = "100 and how many were looked at, if the row ends ahead of that")
    static void judgedToTheRowsEnd() {
        ContourTracer x = made("size 2 2;point 0 1;point 3 99");
        tell(x, 0, 1, 0, 0);
        due("three", x.judge(0, 0), 103);
        tell(x, 0, 8, 8, 1);
        due("one", x.judge(0, 2), 101);
        due("place 3 of three: none", x.judge(0, 3), 100);
        due("place 4 of three: none", x.judge(0, 4), 100);
        due("place MAX", x.judge(0, MAX), 100);
        due("otherwise ahead of the end", x.judge(0, 0), 0);
        x.tape(0, 0, 0);
        due("a row without items", x.judge(0, 0), 100);
        x = new ContourTracer();
        x.size(7, 7);
        x.tape(0, 0, 60);
        due("48 POINTS from 12 on", x.judge(0, 12), 148);
    }

    @Says(in = "Terms", words = "(or the place is below 0, or the TAPE holds nothing).")
    static void judgedBelow0OrByNothing() {
        ContourTracer x = new ContourTracer();
        due("nothing", x.judge(0, 0), 100);
        due("nothing, below 0", x.judge(0, -1), 100);
        x.tape(0, 0, 60);
        due("from 0 on", x.judge(0, 0), LACKING);
        due("below 0", x.judge(0, -1), 100);
        due("far below 0", x.judge(0, MIN), 100);
        x.tape(0, -1, 0);
        due("nothing again", x.judge(0, 0), 100);
    }

    @Says(in = "Terms", words = "The host's refusals: NOTHING (-11): nothing is there; CAST (-12): another sort; PLACE (-13): no such place; SIZE (-14): a size below 0.")
    static void theHostsRefusals() {
        ContourTracer x = new ContourTracer();
        due("NOTHING", x.item(0, 0, 1), -11);
        x.tape(0, 0, 1);
        x.tape(1, 1, 1);
        due("CAST", x.shift(0, 0, 1, 0, 1), -12);
        due("PLACE", x.item(0, 1, 1), -13);
        due("SIZE", x.tape(0, 0, -1), -14);
        due("no SIZE", x.tape(0, 0, 0), 1);
    }

    // ---- answers

    @Says(in = "Terms", words = "NONE (-1) no such number; BAD (-2) a number is not as told; STATE (-3) as told; FULL (-4);")
    static void theRefusalsNumbers() {
        ContourTracer x = new ContourTracer();
        due("NONE", x.of(36), -1);
        due("BAD", x.size(1, 1), -2);
        due("STATE", x.undo(), -3);
        for (int i = 0; i < 6; i++) {
            x.see(0, 0);
        }
        due("FULL", x.see(0, 0), -4);
        due("the constant NONE", ContourTracer.NONE, -1);
        due("the constant BAD", ContourTracer.BAD, -2);
        due("the constant STATE", ContourTracer.STATE, -3);
        due("the constant FULL", ContourTracer.FULL, -4);
    }

    @Says(in = "Terms", words = "the first that a call's words name.")
    static void theFirstRefusalThatTheWordsName() {
        ContourTracer x = new ContourTracer();
        due("height: NONE, BAD", x.height(36, 100), NONE);
        due("at: BAD, NONE", x.at(100, 8), BAD);
        due("square: BAD, NONE", x.square(100, 49, 2), BAD);
        due("edge: BAD, NONE", x.edge(100, -1), BAD);
        due("line: BAD, NONE", x.line(100, 9, 9), BAD);
        due("goes: BAD, NONE", x.goes(100, 9, -1), BAD);
        due("holds: BAD, NONE", x.holds(100, 9, 36), BAD);
        due("ways: BAD, NONE", x.ways(100, 9, -1), BAD);
        due("picture: BAD, NONE", x.picture(100, -1), BAD);
        due("land: BAD, NONE", x.land(100, 36), BAD);
        due("landOf: BAD, NONE", x.landOf(100, 9, 9), BAD);
        due("tree: BAD, NONE", x.tree(51, 3), BAD);
        due("see: NONE, BAD", x.see(36, 2), NONE);
        due("event: NONE, BAD", x.event(5, 100), NONE);
        due("after: BAD, NONE", x.after(100, 3), BAD);
        due("book: NONE, BAD", x.book(36, 100), NONE);
        due("tape: NONE, BAD", x.tape(6, 5, 61), NONE);
        due("tape: NONE, SIZE", x.tape(6, 0, -1), NONE);
        due("tape: BAD, SIZE", x.tape(0, 5, -1), BAD);
        due("item: NONE, NOTHING", x.item(6, 0, 0), NONE);
        due("item: NOTHING, PLACE", x.item(0, -1, 0), NOTHING);
        x.tape(0, 1, 1);
        x.tape(1, 2, 1);
        due("judge: NONE, CAST", x.judge(6, -1), NONE);
        due("judge: CAST ahead of the place", x.judge(0, -1), CAST);
        due("shift: NONE, NOTHING", x.shift(6, 0, 2, 0, 0), NONE);
        due("shift: NOTHING, PLACE", x.shift(0, -1, 2, -1, -1), NOTHING);
        due("shift: CAST, PLACE", x.shift(0, -1, 1, -1, -1), CAST);
        fillUp(x);
        due("feed: BAD, FULL", x.feed(128), BAD);
        due("see: NONE, FULL", x.see(36, 0), NONE);
        due("see: BAD, FULL", x.see(0, 2), BAD);
        due("event: NONE, FULL", x.event(5, 0), NONE);
        due("event: BAD, FULL", x.event(2, 100), BAD);
        due("book: NONE, FULL", x.book(36, 0), NONE);
        due("book: BAD, FULL", x.book(0, 100), BAD);
    }

    /** SEEN, EVENTS, the BOOK and THE TEXT hold as much as they may. */
    private static void fillUp(ContourTracer x) {
        for (int i = 0; i < 8; i++) {
            x.see(0, 1);
            x.event(0, 1);
            x.book(0, x.of(0));
        }
        for (int i = 0; i < 9; i++) {
            feed(x, "point 1 20;");
        }
        x.feed('t');
    }

    @Says(in = "Terms", words = "What is answered so changes nothing;")
    static void refusalsChangeNothing() {
        ContourTracer x = made("size 3 4;point 5 60;point 10 60;rule 3");
        x.tape(0, 1, 2);
        x.item(0, 1, 300);
        x.tape(1, 2, 60);
        x.item(1, 59, 7);
        x.image();
        x.height(0, 33);
        fillUp(x);
        String then = held(x);
        long[] refused = {x.size(1, 2), x.size(2, 8), x.height(12, 1), x.height(0, 100), x.rule(5), x.rule(-1), x.feed(-1),
            x.feed(128), x.feed('u'), x.of(12), x.told(8), x.at(100, 0), x.at(0, 8), x.square(100, 0, 0), x.square(0, 20, 0),
            x.edge(100, 0), x.edge(0, -1), x.line(100, 0, 0), x.line(0, 1, 0), x.goes(100, 0, 0), x.goes(0, 0, -1),
            x.holds(100, 0, 0), x.holds(0, 0, 12), x.ways(100, 0, 0), x.ways(0, 1, 0), x.picture(100, 0), x.picture(0, -1),
            x.land(100, 0), x.land(0, 12), x.landOf(100, 0, 0), x.landOf(0, 1, 0), x.pass(12, 0), x.pass(0, 12),
            x.stands(12), x.tree(0, 0), x.tree(1, 3), x.between(100, 0), x.between(0, 100), x.see(12, 0), x.see(0, 2),
            x.see(0, 0), x.fits(2), x.odds(12, 0), x.odds(0, 2), x.mean(2), x.event(5, 0), x.event(0, 12), x.event(2, 100),
            x.event(4, 0), x.after(100, 0), x.after(0, 3), x.book(12, 0), x.book(0, 100), x.book(0, 0), x.judge(6, 0),
            x.judge(0, 0), x.count(4), x.tape(6, 0, 1), x.tape(0, 5, 1), x.tape(0, 0, 61), x.tape(0, 0, -1),
            x.item(6, 0, 1), x.item(2, 0, 1), x.item(0, 2, 1), x.peek(6, 0), x.shift(6, 0, 0, 0, 1), x.shift(0, 0, 2, 0, 1),
            x.shift(0, 0, 1, 0, 1), x.shift(0, 1, 0, 0, 2)};
        for (int i = 0; i < refused.length; i++) {
            due("refusal " + i + " is below 0", refused[i] < 0 ? 1 : 0, 1);
        }
        alike("all that is held", held(x), then);
        due("THE TEXT: it ends too early", x.read(), -110);
        due("undo(): THE IMAGE", x.undo(), 120);
        due("undo(): SEEN", x.count(0), 0);
        ContourTracer y = new ContourTracer();
        due("undo() without an IMAGE", y.undo(), STATE);
        due("and once more", y.undo(), STATE);
    }

    @Says(in = "Terms", words = {"All that follows is asked, and changes nothing.", "what is asked changes nothing."})
    static void askingChangesNothing() {
        ContourTracer x = made("size 3 4;point 5 60;point 10 60;rule 3");
        x.see(5, 1);
        x.event(2, 5);
        x.event(4, 0);
        x.event(3, 1);
        x.book(5, 60);
        x.tape(0, 0, 60);
        x.item(0, 59, 7);
        feed(x, "turn;rule 1");
        x.image();
        String then = held(x);
        x.of(5);
        for (int what = 0; what < 8; what++) {
            x.told(what);
            x.at(60, what);
            x.line(60, 1, what);
        }
        x.square(60, 7, 1);
        x.edge(60, 30);
        x.goes(60, 0, 0);
        x.holds(60, 0, 5);
        x.ways(60, 0, 0);
        x.picture(60, 0);
        x.land(60, 5);
        x.landOf(60, 0, 3);
        x.pass(5, 10);
        x.stands(10);
        x.tree(1, 0);
        x.between(0, 50);
        x.fits(0);
        x.odds(5, 0);
        x.mean(0);
        x.after(60, 0);
        x.after(60, 2);
        x.looked();
        x.judge(0, 0);
        x.count(3);
        x.peek(0, 59);
        alike("all that is held", held(x), then);
        due("read(): THE TEXT", x.read(), 2);
        due("undo(): THE IMAGE", x.undo(), 120);
        feed(x, "turn;rule 1");
        alike("all that is held, by THE IMAGE", held(x), then);
    }

    @Says(in = "Terms", words = "The constants: `NO = Long.MIN_VALUE`: There is no such number.")
    static void theConstantNo() {
        due("NO", ContourTracer.NO, -9223372036854775807L - 1);
        due("peek(0, 0)", new ContourTracer().peek(0, 0), Long.MIN_VALUE);
    }
}
