import java.util.Arrays;

/**
 * Closed lines, lands, passes and volumes of a small ground of heights, level by level.
 * The words in capitals in the comments are those of the document. Every row of numbers is made
 * once, with the object, and used again: a call makes nothing new.
 */
public final class ContourTracer {
    public static final int NONE = -1, BAD = -2, STATE = -3, FULL = -4;
    public static final long NO = Long.MIN_VALUE;

    /** What is asked for is told well, but there is none of it. */
    private static final int LACKING = -5;
    private static final int NOTHING = -11, CAST = -12, PLACE = -13, SIZE = -14;
    /** FAULTS are answered from here downwards. */
    private static final int FAULTY = -10;
    /** A row of bytes that ends too early is answered from here upwards. */
    private static final int CUT_SHORT = 100;

    private static final int LEVELS = 100, TOP_HEIGHT = 99, KINDS = 5, TOP_STEP = 50, TAPES = 6;
    /** Steps from here on, each half the one before, reach every LEVEL. */
    private static final int HALVED_FROM = 64;
    private static final int MOST_SEEN = 6, MOST_EVENTS = 8, MOST_BOOKED = 8;
    private static final int RAISED = 0, LEVELLED = 1, LOWERED = 2, RULED = 3, TURNED = 4;

    private final Ground ground;
    private final Lines lines;
    private final Lands lands;
    /** LANDS of the next LEVEL, while THE TREE is climbed. */
    private final Lands upperLands;
    /** The ground on which EVENTS are tried. */
    private final Ground trial;
    private final Lines trialLines;
    private final Lands trialLands;
    private final Rows seen;
    private final Rows events;
    private final Rows booked;
    private final Text text;
    private final Tape[] tapes;
    /** THE IMAGE, once it has been taken. */
    private boolean imaged;
    private final Ground groundThen;
    private final Rows seenThen;
    private final Rows eventsThen;
    private final Rows bookedThen;

    public ContourTracer() {
        ground = new Ground();
        lines = new Lines(ground);
        lands = new Lands(ground);
        upperLands = new Lands(ground);
        trial = new Ground();
        trialLines = new Lines(trial);
        trialLands = new Lands(trial);
        seen = new Rows(MOST_SEEN);
        events = new Rows(MOST_EVENTS);
        booked = new Rows(MOST_BOOKED);
        text = new Text();
        tapes = new Tape[TAPES];
        for (int i = 0; i < TAPES; i++) {
            tapes[i] = new Tape();
        }
        imaged = false;
        groundThen = new Ground();
        seenThen = new Rows(MOST_SEEN);
        eventsThen = new Rows(MOST_EVENTS);
        bookedThen = new Rows(MOST_BOOKED);
    }

    // ---- the ground

    public int size(int high, int wide) {
        if (!Ground.isSize(high) || !Ground.isSize(wide)) {
            return BAD;
        }
        int was = 10 * ground.high + ground.wide;
        ground.layOut(high, wide);
        return was;
    }

    public int height(int point, int v) {
        if (!ground.isPoint(point)) {
            return NONE;
        }
        if (!isHeight(v)) {
            return BAD;
        }
        int was = ground.heightOf(point);
        ground.putHeight(point, v);
        return was;
    }

    public int rule(int kind) {
        if (!isKind(kind)) {
            return NONE;
        }
        int was = ground.kind;
        ground.putKind(kind);
        return was;
    }

    public int feed(int sign) {
        if (sign < 0 || sign > 127) {
            return BAD;
        }
        if (text.isFull()) {
            return FULL;
        }
        text.append(sign);
        return text.length;
    }

    public int read() {
        int fault = text.parse();
        text.length = 0;
        if (fault != Text.WELL) {
            return FAULTY - fault;
        }
        int done = 0;
        for (int clause = 0; clause < text.clauses; clause++) {
            if (perform(clause)) {
                done++;
            }
        }
        return done;
    }

    /** Does a CLAUSE of THE TEXT; false: it is refused. */
    private boolean perform(int clause) {
        int first = text.numberOf(clause, 0);
        int second = text.numberOf(clause, 1);
        int third = text.numberOf(clause, 2);
        switch (text.wordOf(clause)) {
            case Text.SIZE_WORD:
                return size(first, second) >= 0;
            case Text.POINT_WORD:
                return height(first, second) >= 0;
            case Text.FILL_WORD:
                return ground.fillUp(first, second, third);
            case Text.HILL_WORD:
                return ground.heapUp(first, second, third);
            case Text.RULE_WORD:
                return rule(first) >= 0;
            default:
                ground.turnOver();
                return true;
        }
    }

    // ---- what is told

    public int of(int point) {
        return ground.isPoint(point) ? ground.heightOf(point) : NONE;
    }

    public int told(int what) {
        switch (what) {
            case 0:
                return ground.high;
            case 1:
                return ground.wide;
            case 2:
                return ground.kind;
            case 3:
                return ground.greatest();
            case 4:
                return ground.firstOf(ground.greatest());
            case 5:
                return halfLevel();
            case 6:
                lines.countLevels();
                return lines.busiest();
            case 7:
                lines.countLevels();
                return lines.counts[lines.busiest()];
            default:
                return NONE;
        }
    }

    /** HALF. VOLUME never grows with the LEVEL, so the greatest one is found step by halved step. */
    private int halfLevel() {
        int whole = ground.volume(0);
        int level = 0;
        for (int step = HALVED_FROM; step > 0; step /= 2) {
            if (isLevel(level + step) && 2 * ground.volume(level + step) >= whole) {
                level += step;
            }
        }
        return level;
    }

    public int at(int level, int what) {
        if (!isLevel(level)) {
            return BAD;
        }
        switch (what) {
            case 0:
                lines.trace(level);
                return lines.found;
            case 1:
                lines.trace(level);
                return lines.outerOnes();
            case 2:
                lands.find(level);
                return lands.found;
            case 3:
                return ground.pointsIn(level);
            case 4:
                return ground.saddles(level, false);
            case 5:
                return ground.saddles(level, true);
            case 6:
                return ground.volume(level);
            case 7:
                lines.trace(level);
                return lines.greatestDepth();
            default:
                return NONE;
        }
    }

    public int square(int level, int square, int what) {
        if (!isLevel(level)) {
            return BAD;
        }
        if (!ground.isSquare(square) || what < 0 || what > 1) {
            return NONE;
        }
        int corner = ground.cornerOf(square);
        if (what == 0) {
            return ground.caseOf(corner, level);
        }
        return ground.isJoinedSaddle(corner, level) ? 1 : 0;
    }

    public int edge(int level, int edge) {
        if (!isLevel(level)) {
            return BAD;
        }
        if (!ground.isEdge(edge)) {
            return NONE;
        }
        lines.trace(level);
        return lines.lineOver[edge];
    }

    // ---- lines

    public int line(int level, int line, int what) {
        if (!isLevel(level)) {
            return BAD;
        }
        lines.trace(level);
        if (!lines.isLine(line)) {
            return NONE;
        }
        switch (what) {
            case 0:
                return lines.leastEdge(line);
            case 1:
                return lines.lengthOf(line);
            case 2:
                return lines.depthOf(line);
            case 3:
                return lines.parentOf(line);
            case 4:
                return lines.isOuter(line) ? 1 : 0;
            case 5:
                return lines.areaOf(line);
            case 6:
                return lines.pointsHeld(line);
            default:
                return NONE;
        }
    }

    public int goes(int level, int line, int i) {
        if (!isLevel(level)) {
            return BAD;
        }
        lines.trace(level);
        if (!lines.isLine(line) || i < 0) {
            return NONE;
        }
        return i < lines.lengthOf(line) ? lines.edgeOf(line, i) : LACKING;
    }

    public int holds(int level, int line, int point) {
        if (!isLevel(level)) {
            return BAD;
        }
        lines.trace(level);
        if (!lines.isLine(line) || !ground.isPoint(point)) {
            return NONE;
        }
        return lines.isHeld(line, ground.placeOf(point)) ? 1 : 0;
    }

    public int ways(int level, int line, int i) {
        if (!isLevel(level)) {
            return BAD;
        }
        lines.trace(level);
        if (!lines.isLine(line) || i < 0) {
            return NONE;
        }
        return i < lines.lengthOf(line) ? lines.wayOver(lines.edgeOf(line, i)) : LACKING;
    }

    public int picture(int level, int i) {
        if (!isLevel(level)) {
            return BAD;
        }
        if (i < 0) {
            return NONE;
        }
        int signsOfRow = ground.wide + 1;
        int row = i / signsOfRow;
        int column = i % signsOfRow;
        // Behind the last row there is no sign that parts it from another one.
        if (row >= ground.high || (row == ground.high - 1 && column == ground.wide)) {
            return LACKING;
        }
        if (column == ground.wide) {
            return '/';
        }
        return ground.heightOf(row * ground.wide + column) >= level ? '#' : '.';
    }

    // ---- lands

    public int land(int level, int point) {
        if (!isLevel(level)) {
            return BAD;
        }
        if (!ground.isPoint(point)) {
            return NONE;
        }
        lands.find(level);
        return lands.landAt[ground.placeOf(point)];
    }

    public int landOf(int level, int land, int what) {
        if (!isLevel(level)) {
            return BAD;
        }
        lands.find(level);
        if (land < 0 || land >= lands.found) {
            return NONE;
        }
        switch (what) {
            case 0:
                return ground.pointOf(lands.leastPlaces[land]);
            case 1:
                return lands.sizes[land];
            case 2:
                return lands.tops[land];
            case 3:
                return holesOf(level, land);
            default:
                return NONE;
        }
    }

    /**
     * All PLACES that are IN along a LINE are of one LAND: in each SQUARE they hang together by
     * EDGES or over the SADDLE, or it is the same PLACE. So the least EDGE tells whose HOLE it is; its
     * upper PLACE is IN, as an odd number of LINES HOLDS it.
     */
    private int holesOf(int level, int land) {
        lines.trace(level);
        int holes = 0;
        for (int line = 0; line < lines.found; line++) {
            if (!lines.isOuter(line) && lands.landAt[lines.leastPlace(line)] == land) {
                holes++;
            }
        }
        return holes;
    }

    public int pass(int one, int other) {
        if (!ground.isPoint(one) || !ground.isPoint(other)) {
            return NONE;
        }
        int lesser = Math.min(ground.heightOf(one), ground.heightOf(other));
        int place = ground.placeOf(one);
        int goal = ground.placeOf(other);
        int level = 0;
        // LANDS of a LEVEL lie in LANDS of each lower one, by every KIND of RULE: what has parted
        // stays parted further up. So the greatest LEVEL is found step by halved step.
        for (int step = HALVED_FROM; step > 0; step /= 2) {
            if (level + step <= lesser) {
                lands.find(level + step);
                if (lands.landAt[place] == lands.landAt[goal]) {
                    level += step;
                }
            }
        }
        return level;
    }

    public int stands(int point) {
        if (!ground.isPoint(point)) {
            return NONE;
        }
        int own = ground.heightOf(point);
        int place = ground.placeOf(point);
        int level = 0;
        // As in pass(): a greater HEIGHT that is out of reach stays so further up. If there is none at
        // all, LEVEL 0 is as good as a PASS.
        for (int step = HALVED_FROM; step > 0; step /= 2) {
            if (level + step <= own) {
                lands.find(level + step);
                if (lands.topAround(place) > own) {
                    level += step;
                }
            }
        }
        return own - level;
    }

    public int tree(int step, int what) {
        if (step < 1 || step > TOP_STEP) {
            return BAD;
        }
        if (what < 0 || what > 2) {
            return NONE;
        }
        int together = 0;
        Lands below = lands;
        Lands above = upperLands;
        below.find(0);
        for (int level = 0; level < LEVELS && below.found > 0; level += step) {
            countChildren(below, above, level + step);
            together += what == 0 ? below.found : what == 1 ? below.leaves() : below.forks();
            Lands climbed = below;
            below = above;
            above = climbed;
        }
        return together;
    }

    /** Tells LANDS how many of the next LEVEL lie in each; beyond the last LEVEL there are none. */
    private static void countChildren(Lands below, Lands above, int nextLevel) {
        below.clearChildren();
        if (nextLevel < LEVELS) {
            above.find(nextLevel);
            for (int land = 0; land < above.found; land++) {
                below.addChild(above.leastPlaces[land]);
            }
        }
    }

    public int between(int one, int other) {
        if (!isLevel(one) || !isLevel(other)) {
            return BAD;
        }
        return ground.volume(Math.min(one, other)) - ground.volume(Math.max(one, other));
    }

    // ---- seen, odds

    public int see(int point, int is) {
        if (point == -1) {
            return seen.clear();
        }
        if (!ground.isPoint(point)) {
            return NONE;
        }
        if (is < 0 || is > 1) {
            return BAD;
        }
        return seen.isFull() ? FULL : seen.append(point, is);
    }

    public int fits(int what) {
        if (what < 0 || what > 1) {
            return NONE;
        }
        int least = 0;
        int greatest = LEVELS - 1;
        for (int row = 0; row < seen.used; row++) {
            if (!ground.isPoint(seen.firsts[row])) {
                greatest = -1;
            } else if (seen.seconds[row] == 1) {
                greatest = Math.min(greatest, ground.heightOf(seen.firsts[row]));
            } else {
                least = Math.max(least, ground.heightOf(seen.firsts[row]) + 1);
            }
        }
        if (what == 0) {
            return Math.max(0, greatest - least + 1);
        }
        return least <= greatest ? least : LACKING;
    }

    public long odds(int point, int part) {
        if (!ground.isPoint(point) || !isPart(part)) {
            return NO;
        }
        return hundredths(ground.heightOf(point) + 1, part);
    }

    public long mean(int part) {
        if (!isPart(part)) {
            return NO;
        }
        lines.countLevels();
        int together = 0;
        for (int level = 0; level < LEVELS; level++) {
            together += lines.counts[level];
        }
        return hundredths(together, part);
    }

    private static boolean isPart(int part) {
        return part == 0 || part == 1;
    }

    /** One part of so many hundredths, in lowest terms. */
    private static long hundredths(int above, int part) {
        int common = 100;
        while (common > 1 && (above % common != 0 || 100 % common != 0)) {
            common--;
        }
        return part == 0 ? above / common : 100 / common;
    }

    // ---- events, books

    public int event(int what, int n) {
        if (what == -1) {
            return events.clear();
        }
        boolean ofPoint = what == RAISED || what == LEVELLED;
        if (what < RAISED || what > TURNED || (ofPoint && !ground.isPoint(n))) {
            return NONE;
        }
        if ((what == LOWERED && !isHeight(n)) || (what == RULED && !isKind(n)) || (what == TURNED && n != 0)) {
            return BAD;
        }
        return events.isFull() ? FULL : events.append(what, n);
    }

    public int after(int level, int what) {
        if (!isLevel(level)) {
            return BAD;
        }
        if (what < 0 || what > 2) {
            return NONE;
        }
        tryEvents();
        if (what == 0) {
            trialLines.trace(level);
            return trialLines.found;
        }
        if (what == 1) {
            trialLands.find(level);
            return trialLands.found;
        }
        return trial.volume(level);
    }

    private void tryEvents() {
        trial.copyFrom(ground);
        for (int row = 0; row < events.used; row++) {
            happen(trial, events.firsts[row], events.seconds[row]);
        }
    }

    private static void happen(Ground where, int what, int n) {
        switch (what) {
            case RAISED:
                if (where.isPoint(n)) {
                    where.putHeight(n, Math.min(TOP_HEIGHT, where.heightOf(n) + 10));
                }
                break;
            case LEVELLED:
                if (where.isPoint(n)) {
                    where.putHeight(n, 0);
                }
                break;
            case LOWERED:
                where.lowerAll(n);
                break;
            case RULED:
                where.putKind(n);
                break;
            default:
                where.turnOver();
                break;
        }
    }

    public int book(int point, int v) {
        if (point == -1) {
            return booked.clear();
        }
        if (!ground.isPoint(point)) {
            return NONE;
        }
        if (!isHeight(v)) {
            return BAD;
        }
        return booked.isFull() ? FULL : booked.append(point, v);
    }

    public int looked() {
        for (int row = 0; row < booked.used; row++) {
            int point = booked.firsts[row];
            if (!ground.isPoint(point) || ground.heightOf(point) != booked.seconds[row]) {
                return row;
            }
        }
        return LACKING;
    }

    // ---- judging, the image, tapes

    public int judge(int tape, int i) {
        if (!isTape(tape)) {
            return NONE;
        }
        Tape row = tapes[tape];
        if (row.isEmpty()) {
            return CUT_SHORT;
        }
        if (row.sort != Tape.BYTES) {
            return CAST;
        }
        int points = ground.points();
        for (int point = 0; point < points; point++) {
            if (!row.isPlace(i + point)) {
                return CUT_SHORT + point;
            }
            if (row.items[i + point] != ground.heightOf(point)) {
                return point;
            }
        }
        return LACKING;
    }

    public int image() {
        groundThen.copyFrom(ground);
        seenThen.copyFrom(seen);
        eventsThen.copyFrom(events);
        bookedThen.copyFrom(booked);
        imaged = true;
        return ground.together();
    }

    public int undo() {
        if (!imaged) {
            return STATE;
        }
        ground.copyFrom(groundThen);
        seen.copyFrom(seenThen);
        events.copyFrom(eventsThen);
        booked.copyFrom(bookedThen);
        return ground.together();
    }

    public int count(int what) {
        switch (what) {
            case 0:
                return seen.used;
            case 1:
                return events.used;
            case 2:
                return booked.used;
            case 3:
                return text.length;
            default:
                return BAD;
        }
    }

    public int tape(int tape, int sort, int n) {
        if (!isTape(tape)) {
            return NONE;
        }
        if (sort == Tape.EMPTY) {
            tapes[tape].become(Tape.EMPTY, 0);
            return 1;
        }
        if (!Tape.isSort(sort) || n > Tape.MOST) {
            return BAD;
        }
        if (n < 0) {
            return SIZE;
        }
        tapes[tape].become(sort, n);
        return 1;
    }

    public int item(int tape, int i, long v) {
        if (!isTape(tape)) {
            return NONE;
        }
        if (tapes[tape].isEmpty()) {
            return NOTHING;
        }
        if (!tapes[tape].isPlace(i)) {
            return PLACE;
        }
        tapes[tape].put(i, v);
        return 1;
    }

    public long peek(int tape, int i) {
        if (!isTape(tape) || !tapes[tape].isPlace(i)) {
            return NO;
        }
        return tapes[tape].items[i];
    }

    public int shift(int tape, int i, int other, int j, int n) {
        if (!isTape(tape) || !isTape(other)) {
            return NONE;
        }
        Tape from = tapes[tape];
        Tape to = tapes[other];
        if (from.isEmpty() || to.isEmpty()) {
            return NOTHING;
        }
        if (from.sort != to.sort) {
            return CAST;
        }
        if (!from.isStretch(i, n) || !to.isStretch(j, n)) {
            return PLACE;
        }
        System.arraycopy(from.items, i, to.items, j, n);
        return n;
    }

    private static boolean isLevel(int level) {
        return level >= 0 && level < LEVELS;
    }

    private static boolean isHeight(int v) {
        return v >= 0 && v <= TOP_HEIGHT;
    }

    private static boolean isKind(int kind) {
        return kind >= 0 && kind < KINDS;
    }

    private static boolean isTape(int tape) {
        return tape >= 0 && tape < TAPES;
    }

    /**
     * THE GROUND and THE RULE. HEIGHTS lie by the NUMBERS of PLACES, the rim of those that are no
     * POINTS too: so all neighbours are a fixed step of the number away and need no test of their own.
     * A SQUARE goes by its corner, the NUMBER of its upper left PLACE.
     */
    private static final class Ground {
        static final int LEAST_SIDE = 2, MOST_SIDE = 7, FIRST_SIDE = 6;
        static final int MOST_PLACES = (MOST_SIDE + 2) * (MOST_SIDE + 2);
        static final int MOST_POINTS = MOST_SIDE * MOST_SIDE;
        static final int BEYOND = -1;
        static final int NONE_KIND = 1, MEAN_KIND = 2, CHECKED_KIND = 3, CROSS_KIND = 4;

        final int[] heights;
        int high;
        int wide;
        /** How many PLACES are in a row: the step to the PLACE below. */
        int stride;
        int places;
        int kind;
        /** Goes up by each change: what was made from the ground before is no more good then. */
        int changes;

        Ground() {
            heights = new int[MOST_PLACES];
            kind = 0;
            changes = 0;
            layOut(FIRST_SIDE, FIRST_SIDE);
        }

        static boolean isSize(int side) {
            return side >= LEAST_SIDE && side <= MOST_SIDE;
        }

        void layOut(int newHigh, int newWide) {
            high = newHigh;
            wide = newWide;
            stride = newWide + 2;
            places = (newHigh + 2) * stride;
            Arrays.fill(heights, BEYOND);
            int points = points();
            for (int point = 0; point < points; point++) {
                putHeight(point, 0);
            }
        }

        void copyFrom(Ground other) {
            layOut(other.high, other.wide);
            System.arraycopy(other.heights, 0, heights, 0, MOST_PLACES);
            putKind(other.kind);
        }

        void putKind(int newKind) {
            kind = newKind;
            changes++;
        }

        void putHeight(int point, int v) {
            heights[placeOf(point)] = v;
            changes++;
        }

        int points() {
            return high * wide;
        }

        boolean isPoint(int point) {
            return point >= 0 && point < points();
        }

        int placeOf(int point) {
            return stride * (point / wide + 1) + point % wide + 1;
        }

        int pointOf(int place) {
            return wide * (place / stride - 1) + place % stride - 1;
        }

        int heightOf(int point) {
            return heights[placeOf(point)];
        }

        int greatest() {
            int greatest = BEYOND;
            for (int place = 0; place < places; place++) {
                greatest = Math.max(greatest, heights[place]);
            }
            return greatest;
        }

        int firstOf(int height) {
            int points = points();
            int point = 0;
            while (point < points && heightOf(point) != height) {
                point++;
            }
            return point;
        }

        int together() {
            int together = 0;
            int points = points();
            for (int point = 0; point < points; point++) {
                together += heightOf(point);
            }
            return together;
        }

        int pointsIn(int level) {
            int in = 0;
            for (int place = 0; place < places; place++) {
                if (heights[place] >= level) {
                    in++;
                }
            }
            return in;
        }

        void turnOver() {
            int points = points();
            for (int point = 0; point < points; point++) {
                putHeight(point, TOP_HEIGHT - heightOf(point));
            }
        }

        void lowerAll(int n) {
            int points = points();
            for (int point = 0; point < points; point++) {
                putHeight(point, Math.max(0, heightOf(point) - n));
            }
        }

        /** Does the CLAUSE fill; false: it is refused. */
        boolean fillUp(int one, int other, int height) {
            if (!isPoint(one) || !isPoint(other) || other / wide < one / wide || other % wide < one % wide) {
                return false;
            }
            for (int row = one / wide; row <= other / wide; row++) {
                for (int column = one % wide; column <= other % wide; column++) {
                    putHeight(row * wide + column, height);
                }
            }
            return true;
        }

        /** Does the CLAUSE hill; false: it is refused. */
        boolean heapUp(int summit, int height, int n) {
            if (!isPoint(summit)) {
                return false;
            }
            int points = points();
            for (int point = 0; point < points; point++) {
                int away = Math.abs(point / wide - summit / wide) + Math.abs(point % wide - summit % wide);
                putHeight(point, Math.max(heightOf(point), height - n * away));
            }
            return true;
        }

        boolean isEdge(int edge) {
            if (edge < 0 || edge >= 2 * places) {
                return false;
            }
            int place = edge / 2;
            return edge % 2 == 0 ? place % stride < stride - 1 : place + stride < places;
        }

        boolean isSquare(int square) {
            return square >= 0 && square < (high + 1) * (wide + 1);
        }

        int cornerOf(int square) {
            return stride * (square / (wide + 1)) + square % (wide + 1);
        }

        int caseOf(int corner, int level) {
            return (heights[corner] >= level ? 1 : 0)
                    + (heights[corner + 1] >= level ? 2 : 0)
                    + (heights[corner + stride + 1] >= level ? 4 : 0)
                    + (heights[corner + stride] >= level ? 8 : 0);
        }

        static boolean isSaddle(int code) {
            return code == 5 || code == 10;
        }

        /** Whether a SADDLE is JOINED. */
        boolean isJoined(int corner, int level) {
            int upperLeft = heights[corner] - level;
            int upperRight = heights[corner + 1] - level;
            int lowerRight = heights[corner + stride + 1] - level;
            int lowerLeft = heights[corner + stride] - level;
            switch (kind) {
                case NONE_KIND:
                    return false;
                case MEAN_KIND:
                    return upperLeft + upperRight + lowerRight + lowerLeft >= 0;
                case CHECKED_KIND:
                    return (corner / stride + corner % stride) % 2 == 0;
                case CROSS_KIND:
                    int falling = upperLeft * lowerRight;
                    int rising = upperRight * lowerLeft;
                    return upperLeft >= 0 ? falling >= rising : rising >= falling;
                default:
                    return true;
            }
        }

        boolean isJoinedSaddle(int corner, int level) {
            return isSaddle(caseOf(corner, level)) && isJoined(corner, level);
        }

        int saddles(int level, boolean joinedOnly) {
            int saddles = 0;
            int squares = (high + 1) * (wide + 1);
            for (int square = 0; square < squares; square++) {
                int corner = cornerOf(square);
                if (isSaddle(caseOf(corner, level)) && (!joinedOnly || isJoined(corner, level))) {
                    saddles++;
                }
            }
            return saddles;
        }

        /** VOLUME; a POINT counts once for each SQUARE of POINTS that it is of. */
        int volume(int level) {
            int volume = 0;
            int points = points();
            for (int point = 0; point < points; point++) {
                int row = point / wide;
                int column = point % wide;
                int across = row > 0 && row < high - 1 ? 2 : 1;
                int along = column > 0 && column < wide - 1 ? 2 : 1;
                volume += across * along * Math.max(0, heightOf(point) - level);
            }
            return volume;
        }

        /** Whether LINES and LANDS of a LEVEL are surely those of the LEVEL below it. */
        boolean isLikeBelow(int level) {
            if (kind == MEAN_KIND || kind == CROSS_KIND) {
                return false;
            }
            for (int place = 0; place < places; place++) {
                if (heights[place] == level - 1) {
                    return false;
                }
            }
            return true;
        }
    }

    /** LINES of one LEVEL of a ground, as they were traced last. */
    private static final class Lines {
        static final int TOP_SIDE = 0, RIGHT_SIDE = 1, BOTTOM_SIDE = 2, LEFT_SIDE = 3;
        static final int MOST_EDGES = 2 * Ground.MOST_PLACES;
        /** Each LINE has 4 EDGES or more. */
        static final int MOST_LINES = MOST_EDGES / 4;

        final Ground ground;
        /** By an EDGE: the LINE that goes over it. */
        final int[] lineOver;
        /** EDGES of all LINES as they go, one LINE behind the other. */
        final int[] edges;
        /** Where a LINE begins among these; behind the last LINE, where it ends. */
        final int[] begins;
        /** By a LEVEL: how many LINES it has. */
        final int[] counts;
        int found;
        int level;
        int changesTraced;
        int changesCounted;

        Lines(Ground whose) {
            ground = whose;
            lineOver = new int[MOST_EDGES];
            edges = new int[MOST_EDGES];
            begins = new int[MOST_LINES + 1];
            counts = new int[LEVELS];
            found = 0;
            level = 0;
            changesTraced = -1;
            changesCounted = -1;
        }

        void trace(int wanted) {
            if (level == wanted && changesTraced == ground.changes) {
                return;
            }
            level = wanted;
            changesTraced = ground.changes;
            found = 0;
            Arrays.fill(lineOver, LACKING);
            // No EDGE of the lowest row of PLACES is CROSSED. At the end of a row the next NUMBER is no
            // neighbour, but both are OUT.
            int last = ground.places - ground.stride;
            for (int place = 0; place < last; place++) {
                if (isIn(place) != isIn(place + 1)) {
                    follow(2 * place);
                }
                if (isIn(place) != isIn(place + ground.stride)) {
                    follow(2 * place + 1);
                }
            }
        }

        boolean isIn(int place) {
            return ground.heights[place] >= level;
        }

        /** Goes along the LINE over an EDGE that is CROSSED, if it is a new one; EDGES come in their order. */
        void follow(int least) {
            if (lineOver[least] != LACKING || found >= MOST_LINES) {
                return;
            }
            int used = begins[found];
            int edge = least;
            while (used < MOST_EDGES && lineOver[edge] == LACKING) {
                lineOver[edge] = found;
                edges[used] = edge;
                used++;
                edge = nextOf(edge);
            }
            found++;
            begins[found] = used;
        }

        int nextOf(int edge) {
            switch (wayOver(edge)) {
                case 'u':
                    return leave(edge / 2 - ground.stride, BOTTOM_SIDE);
                case 'd':
                    return leave(edge / 2, TOP_SIDE);
                case 'r':
                    return leave(edge / 2, LEFT_SIDE);
                default:
                    return leave(edge / 2 - 1, RIGHT_SIDE);
            }
        }

        int wayOver(int edge) {
            boolean in = isIn(edge / 2);
            if (edge % 2 == 0) {
                return in ? 'u' : 'd';
            }
            return in ? 'r' : 'l';
        }

        /** The EDGE with which that of a side is joined in a SQUARE. */
        int leave(int corner, int side) {
            int code = ground.caseOf(corner, level);
            if (Ground.isSaddle(code)) {
                // CASE 5 has its upper right PLACE OUT, CASE 10 has it IN.
                boolean aroundUpperRight = (code == 5) == ground.isJoined(corner, level);
                return sideOf(corner, aroundUpperRight ? side ^ 1 : 3 - side);
            }
            // What is higher is on the left: going round the SQUARE from the upper left PLACE on, a LINE
            // leaves where an IN is followed by an OUT.
            int leaving = TOP_SIDE;
            while (leaving < LEFT_SIDE && ((code >> leaving) & 3) != 1) {
                leaving++;
            }
            return sideOf(corner, leaving);
        }

        int sideOf(int corner, int side) {
            switch (side) {
                case TOP_SIDE:
                    return 2 * corner;
                case RIGHT_SIDE:
                    return 2 * (corner + 1) + 1;
                case BOTTOM_SIDE:
                    return 2 * (corner + ground.stride);
                default:
                    return 2 * corner + 1;
            }
        }

        boolean isLine(int line) {
            return line >= 0 && line < found;
        }

        int lengthOf(int line) {
            return begins[line + 1] - begins[line];
        }

        int edgeOf(int line, int i) {
            return edges[begins[line] + i];
        }

        int leastEdge(int line) {
            return edges[begins[line]];
        }

        /** The left (upper) PLACE of the least EDGE. */
        int leastPlace(int line) {
            return leastEdge(line) / 2;
        }

        /** All LINES that HOLD a PLACE, a bit each: there are fewer of them than a long has bits. */
        long holdersOf(int place) {
            long holders = 0;
            int end = ground.stride * (place / ground.stride + 1) - 1;
            for (int left = place; left < end; left++) {
                int line = lineOver[2 * left];
                if (line >= 0) {
                    holders ^= 1L << line;
                }
            }
            return holders;
        }

        boolean isHeld(int line, int place) {
            return ((holdersOf(place) >> line) & 1) == 1;
        }

        /** All other LINES that HOLD a LINE, a bit each. */
        long holdersOfLine(int line) {
            return holdersOf(leastPlace(line)) & ~(1L << line);
        }

        int depthOf(int line) {
            return Long.bitCount(holdersOfLine(line));
        }

        boolean isOuter(int line) {
            return depthOf(line) % 2 == 0;
        }

        int parentOf(int line) {
            long holders = holdersOfLine(line);
            int parent = LACKING;
            int greatest = -1;
            for (int other = 0; other < found; other++) {
                if (((holders >> other) & 1) == 1 && depthOf(other) > greatest) {
                    parent = other;
                    greatest = depthOf(other);
                }
            }
            return parent;
        }

        int areaOf(int line) {
            int twice = 0;
            int length = lengthOf(line);
            for (int i = 0; i < length; i++) {
                int edge = edgeOf(line, i);
                int next = i + 1 < length ? edgeOf(line, i + 1) : leastEdge(line);
                twice += acrossOf(edge) * downOf(next) - downOf(edge) * acrossOf(next);
            }
            return Math.abs(twice);
        }

        /** X of an EDGE. */
        int acrossOf(int edge) {
            return 2 * (edge / 2 % ground.stride - 1) + (edge % 2 == 0 ? 1 : 0);
        }

        /** Y of an EDGE. */
        int downOf(int edge) {
            return 2 * (edge / 2 / ground.stride - 1) + edge % 2;
        }

        int pointsHeld(int line) {
            int held = 0;
            int points = ground.points();
            for (int point = 0; point < points; point++) {
                if (isHeld(line, ground.placeOf(point))) {
                    held++;
                }
            }
            return held;
        }

        int outerOnes() {
            int outer = 0;
            for (int line = 0; line < found; line++) {
                if (isOuter(line)) {
                    outer++;
                }
            }
            return outer;
        }

        int greatestDepth() {
            int greatest = LACKING;
            for (int line = 0; line < found; line++) {
                greatest = Math.max(greatest, depthOf(line));
            }
            return greatest;
        }

        void countLevels() {
            if (changesCounted == ground.changes) {
                return;
            }
            changesCounted = ground.changes;
            for (int each = 0; each < LEVELS; each++) {
                // Where nothing is IN, nothing is further up.
                if (each > 0 && (counts[each - 1] == 0 || ground.isLikeBelow(each))) {
                    counts[each] = counts[each - 1];
                } else {
                    trace(each);
                    counts[each] = found;
                }
            }
        }

        /** BUSY, when LINES have been counted. */
        int busiest() {
            int busy = 0;
            for (int each = 1; each < LEVELS; each++) {
                if (counts[each] > counts[busy]) {
                    busy = each;
                }
            }
            return busy;
        }
    }

    /** LANDS of one LEVEL of a ground, as they were found last. */
    private static final class Lands {
        final Ground ground;
        /** By a PLACE: a lesser PLACE with which it hangs together, or itself. */
        final int[] roots;
        /** By a PLACE: its LAND. */
        final int[] landAt;
        final int[] leastPlaces;
        final int[] sizes;
        final int[] tops;
        /** How many LANDS of the next LEVEL lie in each. */
        final int[] children;
        int found;
        int level;
        int changesFound;

        Lands(Ground whose) {
            ground = whose;
            roots = new int[Ground.MOST_PLACES];
            landAt = new int[Ground.MOST_PLACES];
            leastPlaces = new int[Ground.MOST_POINTS];
            sizes = new int[Ground.MOST_POINTS];
            tops = new int[Ground.MOST_POINTS];
            children = new int[Ground.MOST_POINTS];
            found = 0;
            level = 0;
            changesFound = -1;
        }

        void find(int wanted) {
            if (level == wanted && changesFound == ground.changes) {
                return;
            }
            level = wanted;
            changesFound = ground.changes;
            for (int place = 0; place < ground.places; place++) {
                roots[place] = place;
            }
            // A row's last PLACE and the next row's first one are both OUT: they never hang together.
            int last = ground.places - ground.stride - 1;
            for (int corner = 0; corner < last; corner++) {
                hangTogether(corner);
            }
            numberLands();
        }

        boolean isIn(int place) {
            return ground.heights[place] >= level;
        }

        void hangTogether(int corner) {
            int below = corner + ground.stride;
            if (isIn(corner)) {
                if (isIn(corner + 1)) {
                    unite(corner, corner + 1);
                }
                if (isIn(below)) {
                    unite(corner, below);
                }
            }
            if (ground.isJoinedSaddle(corner, level)) {
                if (isIn(corner)) {
                    unite(corner, below + 1);
                } else {
                    unite(corner + 1, below);
                }
            }
        }

        void unite(int one, int other) {
            int first = rootOf(one);
            int second = rootOf(other);
            roots[Math.max(first, second)] = Math.min(first, second);
        }

        int rootOf(int place) {
            int root = place;
            for (int steps = 0; steps < roots.length && roots[root] != root; steps++) {
                root = roots[root];
            }
            return root;
        }

        /** The root of a LAND is its least PLACE, so it comes ahead of all the others. */
        void numberLands() {
            found = 0;
            for (int place = 0; place < ground.places; place++) {
                int root = rootOf(place);
                if (!isIn(place)) {
                    landAt[place] = LACKING;
                } else if (root == place) {
                    landAt[place] = found;
                    leastPlaces[found] = place;
                    sizes[found] = 1;
                    tops[found] = ground.heights[place];
                    found++;
                } else {
                    int land = landAt[root];
                    landAt[place] = land;
                    sizes[land]++;
                    tops[land] = Math.max(tops[land], ground.heights[place]);
                }
            }
        }

        /** TOP of the LAND that has a PLACE, or that PLACE's own HEIGHT, if it is OUT. */
        int topAround(int place) {
            int land = landAt[place];
            return land >= 0 ? tops[land] : ground.heights[place];
        }

        void clearChildren() {
            Arrays.fill(children, 0);
        }

        /** A LAND of the next LEVEL, with its least PLACE, lies in the one that has this PLACE. */
        void addChild(int place) {
            int land = landAt[place];
            if (land >= 0) {
                children[land]++;
            }
        }

        int leaves() {
            int leaves = 0;
            for (int land = 0; land < found; land++) {
                if (children[land] == 0) {
                    leaves++;
                }
            }
            return leaves;
        }

        int forks() {
            int forks = 0;
            for (int land = 0; land < found; land++) {
                if (children[land] > 1) {
                    forks++;
                }
            }
            return forks;
        }
    }

    /** Rows of two numbers told by hand, up to a limit. */
    private static final class Rows {
        final int[] firsts;
        final int[] seconds;
        int used;

        Rows(int most) {
            firsts = new int[most];
            seconds = new int[most];
            used = 0;
        }

        boolean isFull() {
            return used >= firsts.length;
        }

        int append(int first, int second) {
            firsts[used] = first;
            seconds[used] = second;
            used++;
            return used;
        }

        int clear() {
            used = 0;
            return used;
        }

        void copyFrom(Rows other) {
            used = other.used;
            for (int row = 0; row < used; row++) {
                firsts[row] = other.firsts[row];
                seconds[row] = other.seconds[row];
            }
        }
    }

    /** THE TEXT, and the CLAUSES that were read from it. */
    private static final class Text {
        static final int MOST = 100, MOST_CLAUSES = 12, MOST_NUMBERS = 3;
        static final int WELL = -1, NO_WORD = -1;
        static final int SIZE_WORD = 0, POINT_WORD = 1, FILL_WORD = 2, HILL_WORD = 3, RULE_WORD = 4, TURN_WORD = 5;

        final int[] signs;
        int length;
        final int[] words;
        final int[] numbers;
        int clauses;
        /** Where the reading is. */
        int cursor;

        Text() {
            signs = new int[MOST];
            length = 0;
            words = new int[MOST_CLAUSES];
            numbers = new int[MOST_CLAUSES * MOST_NUMBERS];
            clauses = 0;
            cursor = 0;
        }

        boolean isFull() {
            return length >= MOST;
        }

        void append(int sign) {
            signs[length] = sign;
            length++;
        }

        int wordOf(int clause) {
            return words[clause];
        }

        int numberOf(int clause, int i) {
            return numbers[clause * MOST_NUMBERS + i];
        }

        /** Reads all CLAUSES; WELL, or the FAULT. */
        int parse() {
            cursor = 0;
            clauses = 0;
            boolean goesOn = true;
            while (goesOn && clauses < MOST_CLAUSES) {
                if (!readClause()) {
                    return cursor;
                }
                clauses++;
                goesOn = clauses < MOST_CLAUSES && take(';');
            }
            return cursor == length ? WELL : cursor;
        }

        /** What cannot go on here leaves the reading where it is: there is the FAULT. */
        boolean readClause() {
            int word = wordFrom(cursor < length ? signs[cursor] : 0);
            String letters = lettersOf(word);
            if (letters.isEmpty()) {
                return false;
            }
            for (int i = 0; i < letters.length(); i++) {
                if (!take(letters.charAt(i))) {
                    return false;
                }
            }
            words[clauses] = word;
            for (int i = 0; i < numbersOf(word); i++) {
                if (!take(' ') || !readNumber(clauses * MOST_NUMBERS + i)) {
                    return false;
                }
            }
            return true;
        }

        boolean readNumber(int into) {
            if (!isDigit()) {
                return false;
            }
            int number = takeDigit();
            if (isDigit()) {
                number = 10 * number + takeDigit();
            }
            numbers[into] = number;
            return true;
        }

        boolean take(int sign) {
            if (cursor >= length || signs[cursor] != sign) {
                return false;
            }
            cursor++;
            return true;
        }

        boolean isDigit() {
            return cursor < length && signs[cursor] >= '0' && signs[cursor] <= '9';
        }

        int takeDigit() {
            int digit = signs[cursor] - '0';
            cursor++;
            return digit;
        }

        /** No two WORDS begin alike. */
        static int wordFrom(int sign) {
            switch (sign) {
                case 's':
                    return SIZE_WORD;
                case 'p':
                    return POINT_WORD;
                case 'f':
                    return FILL_WORD;
                case 'h':
                    return HILL_WORD;
                case 'r':
                    return RULE_WORD;
                case 't':
                    return TURN_WORD;
                default:
                    return NO_WORD;
            }
        }

        static String lettersOf(int word) {
            switch (word) {
                case SIZE_WORD:
                    return "size";
                case POINT_WORD:
                    return "point";
                case FILL_WORD:
                    return "fill";
                case HILL_WORD:
                    return "hill";
                case RULE_WORD:
                    return "rule";
                case TURN_WORD:
                    return "turn";
                default:
                    return "";
            }
        }

        static int numbersOf(int word) {
            switch (word) {
                case SIZE_WORD:
                case POINT_WORD:
                    return 2;
                case FILL_WORD:
                case HILL_WORD:
                    return 3;
                case RULE_WORD:
                    return 1;
                default:
                    return 0;
            }
        }
    }

    /** A TAPE; items of all sorts lie in longs, each cut to its sort when it is put. */
    private static final class Tape {
        static final int EMPTY = -1, BYTES = 0, SHORTS = 1, INTS = 2, BOOLEANS = 4;
        static final int MOST = 60;

        final long[] items;
        int sort;
        int length;

        Tape() {
            items = new long[MOST];
            sort = EMPTY;
            length = 0;
        }

        static boolean isSort(int sort) {
            return sort >= BYTES && sort <= BOOLEANS;
        }

        void become(int newSort, int newLength) {
            sort = newSort;
            length = newLength;
            Arrays.fill(items, 0L);
        }

        boolean isEmpty() {
            return sort == EMPTY;
        }

        boolean isPlace(int i) {
            return i >= 0 && i < length;
        }

        boolean isStretch(int i, int n) {
            return i >= 0 && n >= 0 && i <= length && n <= length - i;
        }

        void put(int i, long v) {
            switch (sort) {
                case BYTES:
                    items[i] = (byte) v;
                    break;
                case SHORTS:
                    items[i] = (short) v;
                    break;
                case INTS:
                    items[i] = (int) v;
                    break;
                case BOOLEANS:
                    items[i] = v != 0 ? 1 : 0;
                    break;
                default:
                    // A row of longs takes all of v.
                    items[i] = v;
                    break;
            }
        }
    }
}
