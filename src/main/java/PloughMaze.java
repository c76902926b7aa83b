/**
 * A maze that is ploughed into a field of corn, and those who walk in it.
 * What each call promises stands in DOC.md; refusals are answers below zero.
 */
public final class PloughMaze {
    public static final int BAD = -1, NOT = -2, FULL = -3, NONE = -4, NULL = -11, CAST = -12, INDEX = -13, SIZE = -14;

    private static final int WIDTH = 6, SQUARES = 36, SIDES = 4;
    private static final int UP = 0, LEFT = 1, RIGHT = 2, DOWN = 3;
    private static final int KINDS = 4, BLIND = 0, CHALK = 2, CHILD = 3;
    private static final int MOST_MONTHS = 9, STOPS_ALL_BUT_CHILD = 3, STOPS_CHILD = 7;
    private static final int MOST_STEPS = 999, MOST_EATEN = 10, MOST_DAYS = 20;
    private static final int LEAST_ROUND = 4, LEAST_FIT = 2, MOST_FIT = 9;
    private static final int LOUDEST = 40, LOSS = 5;
    private static final int TAPE_LENGTH = 80, WORD_BYTES = 8, FIRST_BYTE = 32, LAST_BYTE = 126, BLANK = ' ';
    private static final int MOST_PARTS = 12, FAULT = -20;
    private static final int SHEETS = 4, LANES = 3, SHEET_ITEMS = 36;

    private final Field field = new Field();
    private final Field kept = new Field();
    private boolean isKept = false;
    private final Tape tape = new Tape();
    // What may still be refused is built here first, so that a refusal changes nothing.
    private final Furrow draft = new Furrow();
    private final Walker walker = new Walker();
    private final Walker secondWalker = new Walker();
    private final Ways ways = new Ways();
    private final Closing closing = new Closing();
    private final Search search = new Search();
    private final Sheet[] sheets = new Sheet[SHEETS];

    public PloughMaze() {
        for (int i = 0; i < SHEETS; i++) {
            sheets[i] = new Sheet();
        }
    }

    // ---- 1 the field

    public int plough(int square) {
        if (!Grid.isSquare(square)) {
            return BAD;
        }
        if (!field.furrow.add(square)) {
            return NOT;
        }
        field.refresh();
        return field.furrow.size;
    }

    public int back(int n) {
        if (n < 1 || n > SQUARES) {
            return BAD;
        }
        if (n > field.furrow.size) {
            return NOT;
        }
        for (int i = 0; i < n; i++) {
            field.furrow.removeLast();
        }
        field.refresh();
        return field.furrow.size;
    }

    public int deer(int square, int side) {
        if (!Grid.isSquare(square) || !Grid.isSide(side)) {
            return BAD;
        }
        long edge = Grid.edge(square, side);
        if (edge == 0L || (field.eaten & edge) != 0L) {
            return NOT;
        }
        if (Long.bitCount(field.eaten) >= MOST_EATEN) {
            return FULL;
        }
        field.eaten |= edge;
        field.refresh();
        return Long.bitCount(field.eaten);
    }

    public int shut(int square, int side, boolean is) {
        if (!Grid.isSquare(square) || !Grid.isSide(side)) {
            return BAD;
        }
        long edge = Grid.edge(square, side);
        if (edge == 0L) {
            return NOT;
        }
        int was = (field.closed & edge) != 0L ? 1 : 0;
        field.closed = is ? field.closed | edge : field.closed & ~edge;
        field.refresh();
        return was;
    }

    public int straw(int square, boolean is) {
        if (!Grid.isSquare(square)) {
            return BAD;
        }
        int was = field.hasStrawMan(square) ? 1 : 0;
        long bit = 1L << square;
        field.strawMen = is ? field.strawMen | bit : field.strawMen & ~bit;
        return was;
    }

    public int set(int what, int v) {
        if (what == 0) {
            return setMonths(v);
        }
        if (what < 0 || what > 2 || !Grid.isSquare(v)) {
            return BAD;
        }
        int was;
        if (what == 1) {
            was = field.middle;
            field.middle = v;
        } else {
            was = field.door;
            field.door = v;
        }
        return was;
    }

    public int told(int square, int what) {
        if (!Grid.isSquare(square)) {
            return BAD;
        }
        switch (what) {
            case 0:
                return field.furrow.placeOf(square);
            case 1:
                return field.gapSides(square);
            case 2:
                return field.hasStrawMan(square) ? 1 : 0;
            default:
                return BAD;
        }
    }

    public int type(long w, int n) {
        if (n < 1 || n > WORD_BYTES || !Tape.isTypeable(w, n)) {
            return BAD;
        }
        if (!tape.append(w, n)) {
            return FULL;
        }
        return tape.size;
    }

    public int furrow() {
        tape.takeText();
        int answer = tape.readFurrow(draft);
        if (answer >= 0) {
            field.furrow.copy(draft);
            field.refresh();
        }
        return answer;
    }

    public int seen() {
        tape.takeText();
        int answer = tape.readSeen();
        if (answer >= 0) {
            field.seenGaps = tape.readGaps;
            field.seenCorn = tape.readCorn;
            field.seenCount = answer;
        }
        return answer;
    }

    public int count(int what) {
        switch (what) {
            case 0:
                return field.furrow.size;
            case 1:
                return field.furrow.ring() != 0L ? 1 : 0;
            case 2:
                return Long.bitCount(field.gaps);
            case 3:
                return Long.bitCount(field.eaten);
            case 4:
                return Long.bitCount(field.closed);
            case 5:
                return Long.bitCount(field.strawMen);
            case 6:
                return field.seenCount;
            default:
                return BAD;
        }
    }

    // ---- 2 walkers

    public int walk(int kind, int square, int side) {
        if (!isStart(kind, square, side)) {
            return BAD;
        }
        ways.measure(field, field.gaps, 0, kind == CHILD);
        return stepsOfWalk(kind, square, side);
    }

    public int at(int kind, int square, int side, int steps) {
        if (!isStart(kind, square, side) || steps < 0 || steps > MOST_STEPS) {
            return BAD;
        }
        walker.begin(kind, square, side);
        for (int i = 0; i < steps && walker.square != field.middle; i++) {
            walker.step(field);
        }
        return walker.square;
    }

    public int worst(int kind, int side, int what) {
        if (!isKind(kind) || !Grid.isSide(side) || what < 0 || what > 2) {
            return BAD;
        }
        int most = NONE;
        int first = NONE;
        int never = 0;
        ways.measure(field, field.gaps, 0, kind == CHILD);
        for (int square = 0; square < SQUARES; square++) {
            int steps = stepsOfWalk(kind, square, side);
            if (steps < 0) {
                never++;
            } else if (steps > most) {
                most = steps;
                first = square;
            }
        }
        return what == 0 ? most : what == 1 ? first : never;
    }

    public int far(int square) {
        if (!Grid.isSquare(square)) {
            return BAD;
        }
        ways.measure(field, field.gaps, 0, false);
        return ways.fewestFrom(square);
    }

    public int roped(int square) {
        if (!Grid.isSquare(square)) {
            return BAD;
        }
        ways.measure(field, field.gaps, 1, false);
        return ways.fewestFrom(square);
    }

    public int two(int kind, int square, int other, int square2, int side) {
        if (!isStart(kind, square, side) || !isStart(other, square2, side)) {
            return BAD;
        }
        if (square == field.middle || square2 == field.middle) {
            return 0;
        }
        walker.begin(kind, square, side);
        secondWalker.begin(other, square2, side);
        for (int steps = 1; steps <= 2 * MOST_STEPS; steps++) {
            Walker goes = steps % 2 == 1 ? walker : secondWalker;
            goes.step(field);
            if (goes.square == field.middle) {
                return steps;
            }
        }
        return NONE;
    }

    // ---- 3 parts, bells, furrows

    public int parts() {
        return ways.countParts(field);
    }

    public int shutting(int what) {
        if (what < 0 || what > 2) {
            return BAD;
        }
        if (!closing.find(field, ways)) {
            return NONE;
        }
        return what == 0 ? closing.square : what == 1 ? closing.side : closing.steps;
    }

    public int days(int n) {
        if (n < 1 || n > MOST_DAYS) {
            return BAD;
        }
        int shutNow = 0;
        while (shutNow < n && closing.find(field, ways)) {
            field.closed |= Grid.edge(closing.square, closing.side);
            field.refresh();
            shutNow++;
        }
        return shutNow;
    }

    public int bell(int square) {
        if (!Grid.isSquare(square)) {
            return BAD;
        }
        return ways.heard(field, square);
    }

    public int fit(int square, int many, int k) {
        if (!Grid.isSquare(square) || many < LEAST_FIT || many > MOST_FIT || k < -2 || k >= many) {
            return BAD;
        }
        search.run(field, square, many);
        if (k == -1) {
            return search.fitting;
        }
        if (search.hardest < 0) {
            return NONE;
        }
        return k == -2 ? search.hardest : search.best.squareAt(k);
    }

    public int image() {
        kept.copy(field);
        isKept = true;
        return 1;
    }

    public int restore() {
        if (!isKept) {
            return NONE;
        }
        field.copy(kept);
        return 1;
    }

    // ---- 4 sheets

    public int go(int sheet, int lane, int from, int n) {
        if (!isSheet(sheet) || !isLane(lane) || n < 1 || n > SQUARES) {
            return BAD;
        }
        Sheet held = sheets[sheet];
        int trouble = held.trouble(lane, from, n);
        if (trouble != 0) {
            return trouble;
        }
        draft.clear();
        for (int i = 0; i < n; i++) {
            if (!draft.add(held.items[from + i])) {
                return NOT;
            }
        }
        field.furrow.copy(draft);
        field.refresh();
        return n;
    }

    public int sheet(int sheet, int lane, int n) {
        if (!isSheet(sheet) || !isLane(lane) || n > SHEET_ITEMS) {
            return BAD;
        }
        if (n < 0) {
            return SIZE;
        }
        sheets[sheet].renew(lane, n);
        return n;
    }

    public int drop(int sheet) {
        if (!isSheet(sheet)) {
            return BAD;
        }
        Sheet held = sheets[sheet];
        if (!held.isThere()) {
            return NULL;
        }
        int had = held.size;
        held.empty();
        return had;
    }

    public int item(int sheet, int lane, int i, int v) {
        if (!isSheet(sheet) || !isLane(lane)) {
            return BAD;
        }
        Sheet held = sheets[sheet];
        int trouble = held.trouble(lane, i, 1);
        if (trouble != 0) {
            return trouble;
        }
        held.put(i, v);
        return 1;
    }

    public int film(int sheet, int lane, int from) {
        if (!isSheet(sheet) || !isLane(lane)) {
            return BAD;
        }
        Sheet held = sheets[sheet];
        int trouble = held.trouble(lane, from, SQUARES);
        if (trouble != 0) {
            return trouble;
        }
        ways.measure(field, field.gaps, 0, false);
        for (int square = 0; square < SQUARES; square++) {
            held.put(from + square, ways.fewestFrom(square));
        }
        return SQUARES;
    }

    private int setMonths(int v) {
        if (v < 0 || v > MOST_MONTHS) {
            return BAD;
        }
        int was = field.months;
        field.months = v;
        return was;
    }

    /** The ways of such a walker are measured before: where there is none, no walk need be tried. */
    private int stepsOfWalk(int kind, int square, int side) {
        if (ways.fewestFrom(square) < 0) {
            return NONE;
        }
        walker.begin(kind, square, side);
        // Who makes no marks goes round for ever, once on a square again with the same side ahead.
        int most = kind < CHALK ? SQUARES * SIDES : MOST_STEPS;
        for (int steps = 0; steps <= most; steps++) {
            if (walker.square == field.middle) {
                return steps;
            }
            walker.step(field);
        }
        return NONE;
    }

    private static boolean isStart(int kind, int square, int side) {
        return isKind(kind) && Grid.isSquare(square) && Grid.isSide(side);
    }

    private static boolean isKind(int kind) {
        return kind >= 0 && kind < KINDS;
    }

    private static boolean isSheet(int sheet) {
        return sheet >= 0 && sheet < SHEETS;
    }

    private static boolean isLane(int lane) {
        return lane >= 0 && lane < LANES;
    }

    /** The squares, their sides, and the edges between them: a bit of a long for each of the 60. */
    private static final class Grid {
        private static final int ACROSS = 30;
        private static final int[] RIGHT_OF = {RIGHT, UP, DOWN, LEFT};

        static boolean isSquare(int square) {
            return square >= 0 && square < SQUARES;
        }

        static boolean isSide(int side) {
            return side >= 0 && side < SIDES;
        }

        static int next(int square, int side) {
            // Tested here, and not by isSquare, to keep the calls less deep.
            if (square < 0 || square >= SQUARES) {
                return NONE;
            }
            switch (side) {
                case UP:
                    return square >= WIDTH ? square - WIDTH : NONE;
                case LEFT:
                    return square % WIDTH > 0 ? square - 1 : NONE;
                case RIGHT:
                    return square % WIDTH < WIDTH - 1 ? square + 1 : NONE;
                case DOWN:
                    return square < SQUARES - WIDTH ? square + WIDTH : NONE;
                default:
                    return NONE;
            }
        }

        /** The edge's bit, the same from both of its squares; 0 where no square is. */
        static long edge(int square, int side) {
            return between(square, next(square, side));
        }

        /** The edge's bit between two squares, 0 if they are not next to each other. */
        static long between(int square, int other) {
            int low = square < other ? square : other;
            int high = square < other ? other : square;
            if (low < 0 || high >= SQUARES) {
                return 0L;
            }
            if (high - low == WIDTH) {
                return 1L << low;
            }
            // Of a row only five squares have one to their right: without the row's number the bits stay below 60.
            return high - low == 1 && high % WIDTH != 0 ? 1L << ACROSS + low - low / WIDTH : 0L;
        }

        static int rightOf(int side) {
            return isSide(side) ? RIGHT_OF[side] : side;
        }

        static int backOf(int side) {
            return SIDES - 1 - side;
        }

        static int leftOf(int side) {
            return backOf(rightOf(side));
        }

        static int sideOfLetter(int letter) {
            switch (letter) {
                case 'u':
                    return UP;
                case 'l':
                    return LEFT;
                case 'r':
                    return RIGHT;
                case 'd':
                    return DOWN;
                default:
                    return NONE;
            }
        }
    }

    /** A row of unlike squares, each next to the one before, with the gaps of its steps. */
    private static final class Furrow {
        private final int[] row = new int[SQUARES];
        private int size = 0;
        private long ploughed = 0L;
        private long steps = 0L;

        /** Whether the square could come behind the last one; if not, nothing has changed. */
        boolean add(int square) {
            if (!Grid.isSquare(square) || size >= SQUARES || (ploughed >> square & 1L) != 0L) {
                return false;
            }
            if (size > 0) {
                long edge = Grid.between(row[size - 1], square);
                if (edge == 0L) {
                    return false;
                }
                steps |= edge;
            }
            row[size] = square;
            size++;
            ploughed |= 1L << square;
            return true;
        }

        void removeLast() {
            if (size == 0) {
                return;
            }
            size--;
            ploughed &= ~(1L << row[size]);
            if (size > 0) {
                steps &= ~Grid.between(row[size - 1], row[size]);
            }
        }

        void clear() {
            size = 0;
            ploughed = 0L;
            steps = 0L;
        }

        void copy(Furrow from) {
            System.arraycopy(from.row, 0, row, 0, SQUARES);
            size = from.size;
            ploughed = from.ploughed;
            steps = from.steps;
        }

        int squareAt(int place) {
            return place >= 0 && place < size ? row[place] : NONE;
        }

        int lastSquare() {
            return squareAt(size - 1);
        }

        int placeOf(int square) {
            for (int i = 0; i < size; i++) {
                if (row[i] == square) {
                    return i;
                }
            }
            return NONE;
        }

        /** The edge that makes it round, 0 if it is not. */
        long ring() {
            return size >= LEAST_ROUND ? Grid.between(row[size - 1], row[0]) : 0L;
        }
    }

    /** All that an image keeps. */
    private static final class Field {
        private final Furrow furrow = new Furrow();
        private long eaten = 0L;
        private long closed = 0L;
        // Of furrow, eaten and closed: held, since walkers ask for it at each step.
        private long gaps = 0L;
        private long strawMen = 0L;
        private int months = MOST_MONTHS;
        private int middle = 14;
        private int door = 0;
        private long seenGaps = 0L;
        private long seenCorn = 0L;
        private int seenCount = 0;

        void refresh() {
            gaps = (furrow.steps | furrow.ring() | eaten) & ~closed;
        }

        void copy(Field from) {
            furrow.copy(from.furrow);
            eaten = from.eaten;
            closed = from.closed;
            gaps = from.gaps;
            strawMen = from.strawMen;
            months = from.months;
            middle = from.middle;
            door = from.door;
            seenGaps = from.seenGaps;
            seenCorn = from.seenCorn;
            seenCount = from.seenCount;
        }

        boolean hasStrawMan(int square) {
            return (strawMen >> square & 1L) != 0L;
        }

        int gapSides(int square) {
            int sides = 0;
            for (int side = 0; side < SIDES; side++) {
                if ((gaps & Grid.edge(square, side)) != 0L) {
                    sides |= 1 << side;
                }
            }
            return sides;
        }

        boolean cornStops(boolean isChild) {
            return months >= (isChild ? STOPS_CHILD : STOPS_ALL_BUT_CHILD);
        }

        boolean isPassable(boolean isChild, int square, int side) {
            int next = Grid.next(square, side);
            if (next < 0 || !isChild && hasStrawMan(next)) {
                return false;
            }
            return (gaps & Grid.edge(square, side)) != 0L || !cornStops(isChild);
        }
    }

    /** One who walks by the rule of a kind. */
    private static final class Walker {
        private final int[] marks = new int[SQUARES];
        private int kind = BLIND;
        private int square = 0;
        private int side = UP;

        void begin(int newKind, int newSquare, int newSide) {
            kind = newKind;
            square = newSquare;
            side = newSide;
            for (int i = 0; i < SQUARES; i++) {
                marks[i] = 0;
            }
        }

        /** One that finds no side stays, and as nothing has changed then, it stays for good. */
        void step(Field field) {
            int to = chosenSide(field);
            int next = Grid.next(square, to);
            if (next < 0) {
                return;
            }
            marks[square]++;
            square = next;
            side = to;
        }

        /** All look around to the right: who is blind from ahead on, the others from their left on. */
        private int chosenSide(Field field) {
            int look = kind == BLIND ? side : Grid.leftOf(side);
            int chosen = NONE;
            for (int i = 0; i < SIDES; i++) {
                if (field.isPassable(kind == CHILD, square, look) && (chosen < 0 || isBetter(look, chosen))) {
                    chosen = look;
                }
                look = Grid.rightOf(look);
            }
            return chosen;
        }

        private boolean isBetter(int look, int chosen) {
            return kind >= CHALK && marksAt(look) < marksAt(chosen);
        }

        private int marksAt(int look) {
            int next = Grid.next(square, look);
            return next < 0 ? 0 : marks[next];
        }
    }

    /** What spreads from the middle, or from any square, over the field. */
    private static final class Ways {
        private static final long ALL_EDGES = -1L;
        // By square, and behind these by square again, for who has gone through corn by the rope.
        private final int[] fewest = new int[2 * SQUARES];
        private final int[] queue = new int[2 * SQUARES];
        private int queued = 0;

        /** From the middle backwards, so that one go tells the steps from every square. */
        void measure(Field field, long gaps, int ropes, boolean isChild) {
            forget();
            reach(field.middle, 0);
            long free = field.cornStops(isChild) ? gaps : ALL_EDGES;
            for (int i = 0; i < queued && i < queue.length; i++) {
                // A straw man may stand where a way begins, but not further on in it.
                if (isChild || !field.hasStrawMan(queue[i] % SQUARES)) {
                    spread(free, queue[i], ropes);
                }
            }
        }

        int fewestFrom(int square) {
            if (!Grid.isSquare(square)) {
                return NONE;
            }
            int free = fewest[square];
            int byRope = fewest[SQUARES + square];
            if (free < 0 || byRope < 0) {
                return Math.max(free, byRope);
            }
            return Math.min(free, byRope);
        }

        private void forget() {
            queued = 0;
            for (int i = 0; i < fewest.length; i++) {
                fewest[i] = NONE;
            }
        }

        private void spread(long free, int state, int ropes) {
            int square = state % SQUARES;
            int used = state / SQUARES;
            for (int side = 0; side < SIDES; side++) {
                int next = Grid.next(square, side);
                if (next < 0) {
                    continue;
                }
                boolean isFree = (free & Grid.between(square, next)) != 0L;
                if (isFree || used < ropes) {
                    reach(next + (isFree ? used : used + 1) * SQUARES, fewest[state] + 1);
                }
            }
        }

        private void reach(int state, int steps) {
            if (state < 0 || state >= fewest.length || fewest[state] >= 0 || queued >= queue.length) {
                return;
            }
            fewest[state] = steps;
            queue[queued] = state;
            queued++;
        }

        int countParts(Field field) {
            forget();
            int parts = 0;
            for (int start = 0; start < SQUARES; start++) {
                if (fewest[start] < 0) {
                    parts++;
                    hangTogether(field, start);
                }
            }
            return parts;
        }

        private void hangTogether(Field field, int start) {
            int first = queued;
            reach(start, 0);
            for (int i = first; i < queued && i < queue.length; i++) {
                for (int side = 0; side < SIDES; side++) {
                    if ((field.gaps & Grid.edge(queue[i], side)) != 0L) {
                        reach(Grid.next(queue[i], side), 0);
                    }
                }
            }
        }

        /** How loud the bell of the middle is in a square; straw men are deaf to it. */
        int heard(Field field, int square) {
            if (!Grid.isSquare(square) || !Grid.isSquare(field.middle)) {
                return 0;
            }
            forget();
            fewest[field.middle] = 0;
            boolean isLess = true;
            for (int round = 0; round < SQUARES && isLess; round++) {
                isLess = lessenLosses(field);
            }
            return fewest[square] < 0 ? 0 : Math.max(0, LOUDEST - fewest[square]);
        }

        private boolean lessenLosses(Field field) {
            boolean isLess = false;
            for (int square = 0; square < SQUARES; square++) {
                for (int side = 0; side < SIDES && fewest[square] >= 0; side++) {
                    int next = Grid.next(square, side);
                    if (next < 0) {
                        continue;
                    }
                    boolean isGap = (field.gaps & Grid.edge(square, side)) != 0L;
                    int loss = fewest[square] + LOSS + (isGap ? 0 : field.months);
                    if (fewest[next] < 0 || loss < fewest[next]) {
                        fewest[next] = loss;
                        isLess = true;
                    }
                }
            }
            return isLess;
        }
    }

    /** The gap that the ploughman would shut next. */
    private static final class Closing {
        private int square = NONE;
        private int side = NONE;
        private int steps = NONE;

        /** Whether there is one. */
        boolean find(Field field, Ways ways) {
            steps = NONE;
            for (int from = 0; from < SQUARES; from++) {
                weigh(field, ways, from, RIGHT);
                weigh(field, ways, from, DOWN);
            }
            return steps >= 0;
        }

        private void weigh(Field field, Ways ways, int from, int to) {
            long edge = Grid.edge(from, to);
            if ((field.gaps & edge) == 0L) {
                return;
            }
            ways.measure(field, field.gaps & ~edge, 0, false);
            int then = ways.fewestFrom(field.door);
            if (then > steps) {
                steps = then;
                square = from;
                side = to;
            }
        }
    }

    /** All furrows from a square on that fit what was seen. */
    private static final class Search {
        private final Furrow trial = new Furrow();
        private final Furrow best = new Furrow();
        private int many = 0;
        private int fitting = 0;
        private int hardest = NONE;

        void run(Field field, int square, int newMany) {
            many = newMany;
            fitting = 0;
            hardest = NONE;
            trial.clear();
            if (trial.add(square)) {
                goOn(this, field, 1);
            }
        }

        /** In the order of sides, so that of like ones the first comes first. */
        private static void goOn(Search search, Field field, int depth) {
            if (depth >= search.many || depth >= MOST_FIT) {
                search.weigh(field);
                return;
            }
            int last = search.trial.lastSquare();
            for (int side = 0; side < SIDES; side++) {
                boolean isCorn = (field.seenCorn & Grid.edge(last, side)) != 0L;
                if (!isCorn && search.trial.add(Grid.next(last, side))) {
                    goOn(search, field, depth + 1);
                    search.trial.removeLast();
                }
            }
        }

        private void weigh(Field field) {
            long ring = trial.ring();
            long own = trial.steps | ring;
            if ((own & field.seenCorn) != 0L || (field.seenGaps & ~own) != 0L) {
                return;
            }
            fitting++;
            int place = trial.placeOf(field.middle);
            int steps = ring != 0L ? Math.min(place, many - place) : place;
            if (place >= 0 && steps > hardest) {
                hardest = steps;
                best.copy(trial);
            }
        }
    }

    /** What was typed, and the reading of it. */
    private static final class Tape {
        private final int[] typed = new int[TAPE_LENGTH];
        private int size = 0;
        // What is read stays behind in the row when the tape is empty again.
        private int length = 0;
        private int place = 0;
        private long readGaps = 0L;
        private long readCorn = 0L;

        static boolean isTypeable(long w, int n) {
            for (int i = 0; i < n; i++) {
                int letter = byteAt(w, i);
                if (letter < FIRST_BYTE || letter > LAST_BYTE) {
                    return false;
                }
            }
            return true;
        }

        private static int byteAt(long w, int i) {
            return (int) (w >> 8 * i & 0xFFL);
        }

        /** Whether there was room for the n lowest bytes; if not, nothing has changed. */
        boolean append(long w, int n) {
            if (size + n > TAPE_LENGTH) {
                return false;
            }
            for (int i = n - 1; i >= 0; i--) {
                typed[size] = byteAt(w, i);
                size++;
            }
            return true;
        }

        /** The tape is empty then, whatever is read of it. */
        void takeText() {
            length = size;
            size = 0;
            place = -1;
            advance();
        }

        /** To the next byte that is no blank, or to the end: blanks have places, but are no faults. */
        private void advance() {
            do {
                place++;
            } while (place < length && typed[place] == BLANK);
        }

        /** The byte at the place, a blank behind the end: no blank may stand in a text. */
        private int letter() {
            return place < length ? typed[place] : BLANK;
        }

        private int fault() {
            return FAULT - place;
        }

        int readFurrow(Furrow into) {
            into.clear();
            if (!into.add(readSquare())) {
                return fault();
            }
            // Behind all squares none can be added: the loop ends by a fault, or at the end of the text, before its bound.
            for (int steps = 0; steps < SQUARES && place < length; steps++) {
                int side = Grid.sideOfLetter(letter());
                if (!into.add(Grid.next(into.lastSquare(), side))) {
                    return fault();
                }
                advance();
            }
            return into.size;
        }

        int readSeen() {
            readGaps = 0L;
            readCorn = 0L;
            for (int parts = 1; parts <= MOST_PARTS; parts++) {
                if (!readPart()) {
                    return fault();
                }
                if (place >= length) {
                    return parts;
                }
                if (letter() != ',' || parts == MOST_PARTS) {
                    return fault();
                }
                advance();
            }
            return fault();
        }

        /** Whether a part stands there; if not, the place is that of the fault. */
        private boolean readPart() {
            int square = readSquare();
            if (square < 0) {
                return false;
            }
            long edge = Grid.edge(square, Grid.sideOfLetter(letter()));
            if (edge == 0L) {
                return false;
            }
            advance();
            if (letter() == '+' && (readCorn & edge) == 0L) {
                readGaps |= edge;
            } else if (letter() == '-' && (readGaps & edge) == 0L) {
                readCorn |= edge;
            } else {
                return false;
            }
            advance();
            return true;
        }

        private int readSquare() {
            int row = readDigit();
            if (row < 0) {
                return NONE;
            }
            int column = readDigit();
            return column < 0 ? NONE : row * WIDTH + column;
        }

        private int readDigit() {
            int digit = letter() - '0';
            if (digit < 0 || digit >= WIDTH) {
                return NONE;
            }
            advance();
            return digit;
        }
    }

    /** Nothing, or a row of a lane. */
    private static final class Sheet {
        private static final int NO_LANE = -1, BYTES = 0, SHORTS = 1;
        private final int[] items = new int[SHEET_ITEMS];
        private int laneHeld = NO_LANE;
        private int size = 0;

        boolean isThere() {
            return laneHeld != NO_LANE;
        }

        void renew(int lane, int n) {
            laneHeld = lane;
            size = n;
            for (int i = 0; i < SHEET_ITEMS; i++) {
                items[i] = 0;
            }
        }

        void empty() {
            laneHeld = NO_LANE;
            size = 0;
        }

        /** What the machine would find about n items from one on; 0 if nothing. */
        int trouble(int lane, int from, int n) {
            if (!isThere()) {
                return NULL;
            }
            if (lane != laneHeld) {
                return CAST;
            }
            return from < 0 || from > size - n ? INDEX : 0;
        }

        void put(int i, int v) {
            if (i < 0 || i >= size) {
                return;
            }
            items[i] = laneHeld == BYTES ? (byte) v : laneHeld == SHORTS ? (short) v : v;
        }
    }
}
