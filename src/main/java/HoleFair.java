/**
 * A fair through holes in a frozen lake. The words in capitals in the comments are those of
 * ../shared/DOC.md, which says what each call answers.
 */
public final class HoleFair {
    public static final int NONE = -1;

    private static final int SIDE = 16;
    private static final int SQUARES = 256;
    private static final int NEIGHBOURS = 8;
    private static final int SIDES = 4;
    private static final int MOST_THICK = 99;
    private static final int MOST_HOLES = 12;
    private static final int MOST_KIND = 4;
    private static final int MOST_TRAIT = 9;
    private static final int NO_KIND = 9;
    private static final int MOST_GROUPS = 8;
    private static final int MOST_WEIGHT = 99;
    private static final int MOST_LOAD = 9999;
    private static final int MOST_MINUTES = 60;
    private static final int MOST_TEXT = 200;
    private static final int MOST_TAPE = 220;
    private static final int MOST_PAIRS = 10;
    private static final int MOST_TOLD = 40;
    private static final int MOST_CLOSED = 8;
    private static final int MOST_X = 65535;
    private static final int DROWNED = -2;
    private static final int STEPS = 500;

    private final Lake now = new Lake();
    private final Lake kept = new Lake();
    private final Lake trial = new Lake();
    private final Tape tape = new Tape();
    private final Told told = new Told();
    private final Nature nature = new Nature();
    private final LawReader reader = new LawReader(tape);
    private final Sites sites = new Sites();
    private final Closing order = new Closing();
    private final Rescue way = new Rescue();
    private boolean hasKept = false;

    public HoleFair() {
    }

    public boolean ice(int x, int y, int thick) {
        if (!Grid.has(x, y) || !within(thick, 0, MOST_THICK)) {
            return false;
        }
        int square = Grid.at(x, y);
        now.mend(square);
        now.thick[square] = thick;
        return true;
    }

    public int feed(int a, int b, int c, int d, int e) {
        if (tape.size + 20 > MOST_TAPE) {
            return NONE;
        }
        tape.putInt(a);
        tape.putInt(b);
        tape.putInt(c);
        tape.putInt(d);
        tape.putInt(e);
        return tape.size;
    }

    public int law(int n) {
        if (!within(n, 1, MOST_TEXT) || n > tape.size) {
            return NONE;
        }
        int fault = reader.read(n);
        tape.size = 0;
        if (fault != 0) {
            return fault;
        }
        nature.law = reader.handOver(nature.law);
        return nature.law.clauses;
    }

    public int cut(int x, int y, int kind, int heat, int smell, int price) {
        if (!Grid.has(x, y) || !within(kind, 0, MOST_KIND) || !within(heat, 0, MOST_TRAIT)
                || !within(smell, 0, MOST_TRAIT) || !within(price, 0, MOST_TRAIT)) {
            return NONE;
        }
        int square = Grid.at(x, y);
        if (now.holes >= MOST_HOLES || !now.isFree(square)) {
            return NONE;
        }
        if (!nature.allows(now, square, kind)) {
            return -2;
        }
        if (now.makesRow(square)) {
            return -3;
        }
        return now.openHole(square, kind, heat, smell, price);
    }

    public boolean shut(int hole) {
        if (!now.isOpen(hole)) {
            return false;
        }
        now.closeHole(hole);
        return true;
    }

    public int group(int x, int y, int weight) {
        if (!Grid.has(x, y) || !within(weight, 1, MOST_WEIGHT)) {
            return NONE;
        }
        int square = Grid.at(x, y);
        if (now.groups >= MOST_GROUPS || !now.isFirm(square)) {
            return NONE;
        }
        return now.addGroup(square, weight);
    }

    public int settle() {
        return nature.settleAll(now);
    }

    public int minutes(int n) {
        return within(n, 1, MOST_MINUTES) ? nature.pass(now, n) : NONE;
    }

    public int run(int n, int what) {
        boolean ofGroup = what >= 10 && now.hasGroup(what - 10);
        if (!within(n, 1, MOST_MINUTES) || what != 0 && what != 1 && !ofGroup) {
            return NONE;
        }
        trial.copyFrom(now);
        int drowned = nature.pass(trial, n);
        if (what == 0) {
            return drowned;
        }
        return what == 1 ? trial.brokenTotal() : trial.groupSquare[what - 10];
    }

    public int square(int x, int y, int what) {
        if (!Grid.has(x, y)) {
            return NONE;
        }
        int square = Grid.at(x, y);
        switch (what) {
            case 0: return now.thick[square];
            case 1: return now.stateOf(square);
            case 2: return nature.bears(now, square);
            case 3: return now.carried(square);
            case 4: return now.gaps[square];
            case 5: return now.warmth[square];
            default: return NONE;
        }
    }

    public int holeIs(int hole, int what) {
        if (!now.hasHole(hole)) {
            return NONE;
        }
        switch (what) {
            case 0: return now.holeSquare[hole];
            case 1: return now.isOpen(hole) ? 1 : 0;
            case 2: return now.kind[hole];
            case 3: return now.heat[hole];
            case 4: return now.smell[hole];
            case 5: return now.price[hole];
            default: return NONE;
        }
    }

    public int groupIs(int g, int what) {
        if (!now.hasGroup(g)) {
            return NONE;
        }
        switch (what) {
            case 0: return now.groupSquare[g];
            case 1: return now.groupWeight[g];
            case 2: return now.isAfloat(g) ? nature.strongest(now, g) : NONE;
            default: return NONE;
        }
    }

    public int draws(int hole, int g) {
        return now.isOpen(hole) && now.isAfloat(g) ? nature.pull(now, hole, g) : NONE;
    }

    public int sound(int hole, int load) {
        if (!now.isOpen(hole) || !within(load, 0, MOST_LOAD)) {
            return NONE;
        }
        return nature.soundTime(now, hole, load);
    }

    public int places(int n, int what) {
        if (!within(n, 1, MOST_PAIRS) || what != NONE && what != 1 || 2 * n > tape.size) {
            return -3;
        }
        told.readPairs(tape, n);
        if (told.hasTwice()) {
            return -2;
        }
        int set = sites.best(now, nature, told);
        return what == 1 ? set : sites.worthOf(set);
    }

    public int closing(int holes, int load, int what) {
        int asked = Integer.bitCount(holes);
        if (holes < 0 || holes >> now.holes != 0 || !within(asked, 1, MOST_CLOSED)
                || !within(load, 0, MOST_LOAD) || what < NONE || what >= asked) {
            return -3;
        }
        if (!now.allOpen(holes)) {
            return -2;
        }
        order.solve(now, nature, holes, load);
        return what == NONE ? order.cost() : order.holeAt(what);
    }

    public int rescue(int from, int to, int weight, int what) {
        // a way goes over no SQUARE twice, so it has no more places than the lake has SQUARES
        boolean asksPlace = within(what, 0, SQUARES - 1);
        if (!Grid.hasSquare(from) || !Grid.hasSquare(to) || !within(weight, 1, MOST_LOAD)
                || what != NONE && what != STEPS && !asksPlace) {
            return -3;
        }
        if (!way.solve(now, nature, from, to, weight)) {
            return -2;
        }
        if (what == NONE) {
            return way.planks();
        }
        if (what == STEPS) {
            return way.steps();
        }
        return what <= way.steps() ? way.squareAt(what) : -3;
    }

    public int began(int n, int what) {
        if (!within(n, 1, MOST_TOLD) || what != 0 && what != 1 || n > tape.size) {
            return -3;
        }
        told.readSquares(tape, n);
        if (told.hasTwice() || !told.allFirm(now)) {
            return -2;
        }
        trial.copyFrom(now);
        int many = 0;
        int lowest = NONE;
        for (int i = 0; i < told.total; i++) {
            int first = told.square[i];
            if (nature.fellsJust(trial, first, told)) {
                many++;
                lowest = lowest == NONE ? first : Math.min(lowest, first);
            }
            trial.raise(first, now);
        }
        return what == 0 ? many : lowest;
    }

    public int fee(int n, int load, int what) {
        if (!within(n, 1, MOST_PAIRS) || !within(load, 0, MOST_LOAD) || what < NONE || what >= n
                || 2 * n > tape.size) {
            return -3;
        }
        told.readPairs(tape, n);
        if (told.hasTwice() || !told.allFirm(now)) {
            return -2;
        }
        return feeOf(load, what);
    }

    public int row(int x, int y) {
        if (!Grid.has(x, y)) {
            return NONE;
        }
        return now.makesRow(Grid.at(x, y)) ? 1 : 0;
    }

    public boolean seed(int x) {
        if (!within(x, 0, MOST_X)) {
            return false;
        }
        now.x = x;
        return true;
    }

    public int draw(int n) {
        if (!within(n, 1, MOST_MINUTES)) {
            return NONE;
        }
        int drowned = 0;
        for (int i = 0; i < n; i++) {
            now.drift();
            drowned += nature.pass(now, 1);
        }
        return drowned;
    }

    public int keep() {
        kept.copyFrom(now);
        hasKept = true;
        return now.brokenTotal();
    }

    public boolean undo() {
        if (!hasKept) {
            return false;
        }
        now.copyFrom(kept);
        return true;
    }

    public int check(int y, int n) {
        if (!within(y, 0, SIDE - 1) || !within(n, 0, SIDE) || 4 * n > tape.size) {
            return -2;
        }
        int wrong = firstWrong(y, n);
        tape.size = 0;
        return wrong;
    }

    public int count(int what) {
        switch (what) {
            case 0: return now.minute;
            case 1: return now.holes;
            case 2: return now.groups;
            case 3: return nature.law.clauses;
            case 4: return tape.size;
            case 5: return now.x;
            case 6: return now.brokenTotal();
            case 7: return now.drownedTotal();
            default: return NONE;
        }
    }

    private static boolean within(int value, int least, int most) {
        return value >= least && value <= most;
    }

    private int firstWrong(int y, int n) {
        for (int x = 0; x < n; x++) {
            if (tape.intAt(4 * x) != now.seenAt(Grid.at(x, y))) {
                return x;
            }
        }
        return NONE;
    }

    /** The FEE of one told SQUARE, or of all together (NONE). */
    private int feeOf(int load, int which) {
        // with none that BEARS the load the best is 0, so that each pays its whole worth
        int best = 0;
        for (int i = 0; i < told.total; i++) {
            if (nature.bears(now, told.square[i]) >= load) {
                best = Math.max(best, told.worth[i]);
            }
        }
        int together = 0;
        for (int i = 0; i < told.total; i++) {
            boolean asked = which == NONE || which == i;
            if (asked && nature.bears(now, told.square[i]) < load) {
                together += Math.max(0, told.worth[i] - best);
            }
        }
        return together;
    }

    /** How SQUARES lie to one another. */
    private static final class Grid {
        private static final int[] STEP_X = {-1, 0, 1, -1, 1, -1, 0, 1};
        private static final int[] STEP_Y = {-1, -1, -1, 0, 0, 1, 1, 1};
        // rising SQUARE numbers, so that the first fitting side is the least one
        private static final int[] SIDE_X = {0, -1, 1, 0};
        private static final int[] SIDE_Y = {-1, 0, 0, 1};
        private static final int LONGEST_STEP = 3;

        static boolean has(int x, int y) {
            return x >= 0 && x < SIDE && y >= 0 && y < SIDE;
        }

        static boolean hasSquare(int square) {
            return square >= 0 && square < SQUARES;
        }

        static int at(int x, int y) {
            return SIDE * y + x;
        }

        static int xOf(int square) {
            return square & (SIDE - 1);
        }

        static int yOf(int square) {
            return square >> 4;
        }

        /** The i-th NEIGHBOUR (0 to 7), or NONE beyond the lake. */
        static int neighbour(int square, int i) {
            return beside(square, STEP_X[i], STEP_Y[i]);
        }

        /** The SQUARE at the i-th side (0 to 3), or NONE beyond the lake. */
        static int side(int square, int i) {
            return beside(square, SIDE_X[i], SIDE_Y[i]);
        }

        static int beside(int square, int stepX, int stepY) {
            int x = xOf(square) + stepX;
            int y = yOf(square) + stepY;
            return has(x, y) ? at(x, y) : NONE;
        }

        static int way(int a, int b) {
            return Math.abs(xOf(a) - xOf(b)) + Math.abs(yOf(a) - yOf(b));
        }

        static boolean touch(int a, int b) {
            return a != b && Math.abs(xOf(a) - xOf(b)) <= 1 && Math.abs(yOf(a) - yOf(b)) <= 1;
        }

        /** Whether HOLES at three different SQUARES, told in any order, are a ROW. */
        static boolean inRow(int a, int b, int c) {
            return isMiddle(a, b, c) || isMiddle(b, a, c) || isMiddle(a, c, b);
        }

        private static boolean isMiddle(int a, int middle, int c) {
            int stepX = xOf(middle) - xOf(a);
            int stepY = yOf(middle) - yOf(a);
            return Math.abs(stepX) <= LONGEST_STEP && Math.abs(stepY) <= LONGEST_STEP
                    && xOf(c) - xOf(middle) == stepX && yOf(c) - yOf(middle) == stepY;
        }
    }

    /** The bytes that were fed and not used yet. */
    private static final class Tape {
        final int[] bytes = new int[MOST_TAPE];
        int size = 0;

        void putInt(int value) {
            if (size + 4 > MOST_TAPE) {
                return;
            }
            for (int shift = 24; shift >= 0; shift -= 8) {
                bytes[size] = value >> shift & 255;
                size++;
            }
        }

        int byteAt(int place) {
            return place >= 0 && place < MOST_TAPE ? bytes[place] : 0;
        }

        int intAt(int place) {
            return byteAt(place) << 24 | byteAt(place + 1) << 16 | byteAt(place + 2) << 8
                    | byteAt(place + 3);
        }
    }

    /** SQUARES, with worths or without, that a call takes from the tape. */
    private static final class Told {
        final int[] square = new int[MOST_TOLD];
        final int[] worth = new int[MOST_TOLD];
        int total = 0;

        void readSquares(Tape tape, int n) {
            total = Math.min(n, MOST_TOLD);
            for (int i = 0; i < total; i++) {
                square[i] = tape.byteAt(i);
                worth[i] = 0;
            }
            tape.size = 0;
        }

        void readPairs(Tape tape, int n) {
            total = Math.min(n, MOST_TOLD);
            for (int i = 0; i < total; i++) {
                square[i] = tape.byteAt(2 * i);
                worth[i] = tape.byteAt(2 * i + 1);
            }
            tape.size = 0;
        }

        boolean hasTwice() {
            for (int i = 1; i < total; i++) {
                for (int j = 0; j < i; j++) {
                    if (square[i] == square[j]) {
                        return true;
                    }
                }
            }
            return false;
        }

        boolean allFirm(Lake lake) {
            for (int i = 0; i < total; i++) {
                if (!lake.isFirm(square[i])) {
                    return false;
                }
            }
            return true;
        }

        boolean allBroken(Lake lake) {
            for (int i = 0; i < total; i++) {
                if (!lake.isBroken(square[i])) {
                    return false;
                }
            }
            return true;
        }
    }

    /** All that is KEPT and UNDONE: SQUARES, HOLES, GROUPS, THE MINUTE, X. */
    private static final class Lake {
        private static final int BROKEN = -2;

        final int[] thick = new int[SQUARES];
        // NONE for whole ice, BROKEN, or the number of the OPEN HOLE there: no SQUARE is BROKEN under one
        private final int[] cover = new int[SQUARES];
        // GAPS and WARMTH are carried along, since the law asks for them far oftener than they change
        final int[] gaps = new int[SQUARES];
        final int[] warmth = new int[SQUARES];
        final int[] holeSquare = new int[MOST_HOLES];
        final int[] kind = new int[MOST_HOLES];
        final int[] heat = new int[MOST_HOLES];
        final int[] smell = new int[MOST_HOLES];
        final int[] price = new int[MOST_HOLES];
        int holes = 0;
        final int[] groupSquare = new int[MOST_GROUPS];
        final int[] groupWeight = new int[MOST_GROUPS];
        int groups = 0;
        int minute = 0;
        int x = 1;

        Lake() {
            for (int i = 0; i < SQUARES; i++) {
                thick[i] = 50;
                cover[i] = NONE;
            }
        }

        void copyFrom(Lake other) {
            System.arraycopy(other.thick, 0, thick, 0, SQUARES);
            System.arraycopy(other.cover, 0, cover, 0, SQUARES);
            System.arraycopy(other.gaps, 0, gaps, 0, SQUARES);
            System.arraycopy(other.warmth, 0, warmth, 0, SQUARES);
            System.arraycopy(other.holeSquare, 0, holeSquare, 0, MOST_HOLES);
            System.arraycopy(other.kind, 0, kind, 0, MOST_HOLES);
            System.arraycopy(other.heat, 0, heat, 0, MOST_HOLES);
            System.arraycopy(other.smell, 0, smell, 0, MOST_HOLES);
            System.arraycopy(other.price, 0, price, 0, MOST_HOLES);
            System.arraycopy(other.groupSquare, 0, groupSquare, 0, MOST_GROUPS);
            System.arraycopy(other.groupWeight, 0, groupWeight, 0, MOST_GROUPS);
            holes = other.holes;
            groups = other.groups;
            minute = other.minute;
            x = other.x;
        }

        boolean hasHole(int hole) {
            return hole >= 0 && hole < holes;
        }

        boolean isOpen(int hole) {
            return hasHole(hole) && cover[holeSquare[hole]] == hole;
        }

        boolean allOpen(int bits) {
            for (int hole = 0; hole < MOST_HOLES; hole++) {
                if ((bits >> hole & 1) != 0 && !isOpen(hole)) {
                    return false;
                }
            }
            return true;
        }

        boolean hasGroup(int g) {
            return g >= 0 && g < groups;
        }

        boolean isAfloat(int g) {
            return hasGroup(g) && groupSquare[g] != DROWNED;
        }

        /** Whole and without an OPEN HOLE. */
        boolean isFirm(int square) {
            return Grid.hasSquare(square) && cover[square] == NONE;
        }

        boolean isBroken(int square) {
            return cover[square] == BROKEN;
        }

        /** Firm, and no GROUP stands there. */
        boolean isFree(int square) {
            return isFirm(square) && carried(square) == 0;
        }

        int stateOf(int square) {
            if (isBroken(square)) {
                return 1;
            }
            return cover[square] == NONE ? 0 : 2;
        }

        /** What CHECK looks for at a SQUARE. */
        int seenAt(int square) {
            int state = stateOf(square);
            return state == 0 ? thick[square] : -state;
        }

        int kindAt(int square) {
            int hole = cover[square];
            return hasHole(hole) ? kind[hole] : NO_KIND;
        }

        int carried(int square) {
            int weight = 0;
            for (int g = 0; g < groups; g++) {
                if (groupSquare[g] == square) {
                    weight += groupWeight[g];
                }
            }
            return weight;
        }

        int groupsNear(int square) {
            int near = 0;
            for (int g = 0; g < groups; g++) {
                if (groupSquare[g] != DROWNED && Grid.way(groupSquare[g], square) <= 1) {
                    near++;
                }
            }
            return near;
        }

        int brokenTotal() {
            int total = 0;
            for (int i = 0; i < SQUARES; i++) {
                total += isBroken(i) ? 1 : 0;
            }
            return total;
        }

        int drownedTotal() {
            int total = 0;
            for (int g = 0; g < groups; g++) {
                total += groupSquare[g] == DROWNED ? 1 : 0;
            }
            return total;
        }

        int openHole(int square, int itsKind, int itsHeat, int itsSmell, int itsPrice) {
            if (holes >= MOST_HOLES) {
                return NONE;
            }
            int hole = holes;
            holes++;
            holeSquare[hole] = square;
            kind[hole] = itsKind;
            heat[hole] = itsHeat;
            smell[hole] = itsSmell;
            price[hole] = itsPrice;
            cover[square] = hole;
            spread(square, 1, itsHeat);
            return hole;
        }

        void closeHole(int hole) {
            int square = holeSquare[hole];
            cover[square] = NONE;
            spread(square, -1, -heat[hole]);
        }

        int addGroup(int square, int weight) {
            if (groups >= MOST_GROUPS) {
                return NONE;
            }
            int g = groups;
            groups++;
            groupSquare[g] = square;
            groupWeight[g] = weight;
            return g;
        }

        void breakAt(int square) {
            if (!isFirm(square)) {
                return;
            }
            cover[square] = BROKEN;
            spread(square, 1, 0);
            for (int g = 0; g < groups; g++) {
                if (groupSquare[g] == square) {
                    groupSquare[g] = DROWNED;
                }
            }
        }

        void mend(int square) {
            if (isBroken(square)) {
                cover[square] = NONE;
                spread(square, -1, 0);
            }
        }

        /** Takes back what followed a break at a SQUARE: nothing breaks but it and what carried a GROUP. */
        void raise(int square, Lake before) {
            mend(square);
            for (int g = 0; g < groups; g++) {
                groupSquare[g] = before.groupSquare[g];
                if (groupSquare[g] != DROWNED) {
                    mend(groupSquare[g]);
                }
            }
        }

        /** Tells the NEIGHBOURS of a gap that came or went, and them and itself of a HOLE's heat. */
        private void spread(int square, int gap, int warm) {
            warmth[square] += warm;
            for (int i = 0; i < NEIGHBOURS; i++) {
                int beside = Grid.neighbour(square, i);
                if (beside != NONE) {
                    gaps[beside] += gap;
                    warmth[beside] += warm;
                }
            }
        }

        /** Whether a HOLE at a SQUARE would stand in a ROW with two OPEN ones. */
        boolean makesRow(int square) {
            for (int stepX = -Grid.LONGEST_STEP; stepX <= Grid.LONGEST_STEP; stepX++) {
                for (int stepY = -Grid.LONGEST_STEP; stepY <= Grid.LONGEST_STEP; stepY++) {
                    boolean moves = stepX != 0 || stepY != 0;
                    if (moves && isHole(square, stepX, stepY)
                            && (isHole(square, 2 * stepX, 2 * stepY) || isHole(square, -stepX, -stepY))) {
                        return true;
                    }
                }
            }
            return false;
        }

        private boolean isHole(int square, int stepX, int stepY) {
            int there = Grid.beside(square, stepX, stepY);
            return there != NONE && cover[there] >= 0;
        }

        boolean isBesideHole(int square) {
            for (int i = 0; i < NEIGHBOURS; i++) {
                int beside = Grid.neighbour(square, i);
                if (beside != NONE && cover[beside] >= 0) {
                    return true;
                }
            }
            return false;
        }

        /** One SQUARE along a step for a GROUP, if that one is firm. */
        boolean stepGroup(int g, int stepX, int stepY) {
            int there = Grid.beside(groupSquare[g], stepX, stepY);
            if (there == NONE || !isFirm(there)) {
                return false;
            }
            groupSquare[g] = there;
            return true;
        }

        /** What comes ahead of a MINUTE that is DRAWN. */
        void drift() {
            x = (25173 * x + 13849) & MOST_X;
            int g = x & 7;
            if (!isAfloat(g)) {
                return;
            }
            switch (x >> 3 & 3) {
                case 0: stepGroup(g, 0, 1); break;
                case 1: stepGroup(g, 1, 0); break;
                case 2: stepGroup(g, 0, -1); break;
                default: stepGroup(g, -1, 0); break;
            }
        }
    }

    /** THE LAW, as rows of operations that work on a stack. */
    private static final class Law {
        static final int MOST_CLAUSES = 14;
        static final String LETTERS = "inhxymkspdwq";
        static final int END = 0;
        static final int NUMBER = 1;
        static final int LETTER = 2;
        static final int TURN = 3;
        // both leave the value that they have looked at only where they skip
        static final int SKIP_IF_NOT = 4;
        static final int SKIP_IF = 5;
        // every operation but END stands for a sign of its own, and END for a ( or a )
        private static final int MOST_CODE = MOST_TEXT;
        private static final int MOST_STACK = 64;

        private final int[] operation = new int[MOST_CODE];
        private final int[] operand = new int[MOST_CODE];
        private int size = 0;
        private final int[] letterOf = new int[MOST_CLAUSES];
        private final int[] worthStart = new int[MOST_CLAUSES];
        private final int[] holdsStart = new int[MOST_CLAUSES];
        int clauses = 0;
        // the values of LETTERS
        private final int[] value = new int[12];
        private final int[] stack = new int[MOST_STACK];
        private boolean refused = false;

        void clear() {
            size = 0;
            clauses = 0;
        }

        void beginClause(int letter) {
            if (clauses < MOST_CLAUSES) {
                letterOf[clauses] = letter;
                worthStart[clauses] = size;
                clauses++;
            }
        }

        void beginCondition() {
            if (clauses > 0) {
                holdsStart[clauses - 1] = size;
            }
        }

        /** Where the operation stands. */
        int put(int code, int with) {
            if (size >= MOST_CODE) {
                return NONE;
            }
            operation[size] = code;
            operand[size] = with;
            size++;
            return size - 1;
        }

        /** Lets a chain of skips, each with the one before as its operand, go to where the code ends now. */
        void landHere(int lastSkip) {
            int skip = lastSkip;
            for (int i = 0; i < MOST_CODE && skip >= 0 && skip < size; i++) {
                int before = operand[skip];
                operand[skip] = size;
                skip = before;
            }
        }

        boolean has(int letter) {
            for (int i = 0; i < clauses; i++) {
                if (letterOf[i] == letter) {
                    return true;
                }
            }
            return false;
        }

        void lookAt(Lake lake, int square, int kind) {
            value[0] = lake.thick[square];
            value[1] = lake.gaps[square];
            value[2] = lake.warmth[square];
            value[3] = Grid.xOf(square);
            value[4] = Grid.yOf(square);
            value[5] = lake.minute;
            value[6] = kind;
            for (int i = 7; i < 12; i++) {
                value[i] = 0;
            }
        }

        /** The same SQUARE at another time. */
        void lookLater(int thick, int minute) {
            value[0] = thick;
            value[5] = minute;
        }

        void lookFrom(Lake lake, int hole, int g) {
            int square = lake.holeSquare[hole];
            lookAt(lake, square, lake.kind[hole]);
            value[7] = lake.smell[hole];
            value[8] = lake.price[hole];
            value[9] = Grid.way(square, lake.groupSquare[g]);
            value[10] = lake.groupWeight[g];
            value[11] = lake.groupsNear(square);
        }

        /** What the first CLAUSE of a letter that holds says of what was looked at last. */
        int says(int letter, int most) {
            for (int i = 0; i < clauses; i++) {
                if (letterOf[i] == letter && reckon(holdsStart[i]) != 0 && !refused) {
                    int worth = reckon(worthStart[i]);
                    return refused ? 0 : Math.max(0, Math.min(most, worth));
                }
            }
            return 0;
        }

        private int reckon(int start) {
            refused = false;
            int top = 0;
            int at = start;
            // skips go forward only, so no operation comes twice
            for (int i = 0; i < MOST_CODE && at >= 0 && at < size && operation[at] != END; i++) {
                int code = operation[at];
                int with = operand[at];
                at++;
                if (code == NUMBER || code == LETTER) {
                    if (top >= MOST_STACK) {
                        refused = true;
                        return 0;
                    }
                    stack[top] = code == NUMBER ? with : valueOf(with);
                    top++;
                } else if (top < 1) {
                    return 0;
                } else if (code == TURN) {
                    stack[top - 1] = 1 - stack[top - 1];
                } else if (code == SKIP_IF || code == SKIP_IF_NOT) {
                    boolean holds = stack[top - 1] != 0;
                    if (holds == (code == SKIP_IF)) {
                        at = with;
                    } else {
                        top--;
                    }
                } else if (top < 2) {
                    return 0;
                } else {
                    top--;
                    stack[top - 1] = join(code, stack[top - 1], stack[top]);
                    if (refused) {
                        return 0;
                    }
                }
            }
            return stack[0];
        }

        private int valueOf(int letter) {
            return letter >= 0 && letter < value.length ? value[letter] : 0;
        }

        private int join(int sign, int a, int b) {
            switch (sign) {
                case '+': return a + b;
                case '-': return a - b;
                case '*': return a * b;
                case '<': return a < b ? 1 : 0;
                case '>': return a > b ? 1 : 0;
                case '=': return a == b ? 1 : 0;
                default: break;
            }
            if (b == 0) {
                refused = true;
                return 0;
            }
            return sign == '/' ? a / b : a % b;
        }
    }

    /** Reads THE LAW from a TEXT, from the left, up to its first FAULT. */
    private static final class LawReader {
        private static final int DEEPEST = 6;
        private static final int MOST_DIGITS = 5;
        private static final int MISPLACED = 1;
        private static final int TOO_LONG = 2;
        private static final int TOO_MANY = 4;
        private static final int TOO_DEEP = 5;

        private final Tape text;
        // the law that is being read; what it holds is of use only if no FAULT was found
        private Law draft = new Law();
        private int size = 0;
        private int at = 0;
        private int fault = 0;

        LawReader(Tape tape) {
            text = tape;
        }

        /** The law that was read last, for one that is used no more. */
        Law handOver(Law old) {
            Law read = draft;
            draft = old;
            return read;
        }

        /** 0, or what a FAULT answers. */
        int read(int n) {
            size = n;
            at = 0;
            fault = 0;
            draft.clear();
            boolean more = true;
            for (int i = 0; i <= Law.MOST_CLAUSES && more; i++) {
                letterOfClause(i);
                expression(0);
                take('(');
                draft.put(Law.END, 0);
                draft.beginCondition();
                condition(1);
                take(')');
                draft.put(Law.END, 0);
                more = fault == 0 && at < size;
                if (more) {
                    take(';');
                }
            }
            return fault;
        }

        private void letterOfClause(int before) {
            int letter = next();
            if (letter != 'b' && letter != 't' && letter != 'c' && letter != 'g') {
                blame(MISPLACED);
            } else if (before >= Law.MOST_CLAUSES) {
                blame(TOO_MANY);
            }
            if (fault == 0) {
                at++;
                draft.beginClause(letter);
            }
        }

        private void condition(int depth) {
            int lastAnd = NONE;
            int lastOr = NONE;
            piece(depth);
            for (int i = 0; i < size && fault == 0; i++) {
                int sign = next();
                if (sign == '&') {
                    lastAnd = draft.put(Law.SKIP_IF_NOT, lastAnd);
                } else if (sign == '|') {
                    draft.landHere(lastAnd);
                    lastAnd = NONE;
                    lastOr = draft.put(Law.SKIP_IF, lastOr);
                } else {
                    break;
                }
                at++;
                piece(depth);
            }
            draft.landHere(lastAnd);
            draft.landHere(lastOr);
        }

        private void piece(int depth) {
            if (fault != 0) {
                return;
            }
            int opening = next();
            if (opening == '!' && enter(depth)) {
                piece(depth + 1);
                draft.put(Law.TURN, 0);
            } else if (opening == '(' && enter(depth)) {
                condition(depth + 1);
                take(')');
            } else {
                expression(depth);
                int sign = next();
                if (sign != '<' && sign != '>' && sign != '=') {
                    blame(MISPLACED);
                }
                if (fault == 0) {
                    at++;
                    expression(depth);
                    draft.put(sign, 0);
                }
            }
        }

        private void expression(int depth) {
            // a + or - waits for its right TERM, whose FACTORS are joined first
            int waiting = NONE;
            factor(depth);
            for (int i = 0; i < size && fault == 0; i++) {
                int sign = next();
                if (sign == '+' || sign == '-') {
                    if (waiting != NONE) {
                        draft.put(waiting, 0);
                    }
                    waiting = sign;
                    at++;
                    factor(depth);
                } else if (sign == '*' || sign == '/' || sign == '%') {
                    at++;
                    factor(depth);
                    draft.put(sign, 0);
                } else {
                    break;
                }
            }
            if (waiting != NONE) {
                draft.put(waiting, 0);
            }
        }

        private void factor(int depth) {
            if (fault != 0) {
                return;
            }
            int sign = next();
            if (isDigit(sign)) {
                number();
            } else if (sign == '[' && enter(depth)) {
                expression(depth + 1);
                take(']');
            } else if (fault == 0) {
                letter(sign);
            }
        }

        private void letter(int sign) {
            int which = sign < 0 ? NONE : Law.LETTERS.indexOf((char) sign);
            if (which == NONE) {
                blame(MISPLACED);
                return;
            }
            draft.put(Law.LETTER, which);
            at++;
        }

        private void number() {
            int value = 0;
            for (int digits = 0; digits < MOST_DIGITS && isDigit(next()); digits++) {
                value = 10 * value + next() - '0';
                at++;
            }
            if (isDigit(next())) {
                blame(TOO_LONG);
            }
            draft.put(Law.NUMBER, value);
        }

        /** Goes past a sign that opens, unless it is one too many. */
        private boolean enter(int depth) {
            if (depth >= DEEPEST) {
                blame(TOO_DEEP);
                return false;
            }
            at++;
            return true;
        }

        private void take(int sign) {
            if (next() != sign) {
                blame(MISPLACED);
            }
            if (fault == 0) {
                at++;
            }
        }

        private void blame(int number) {
            if (fault == 0) {
                fault = -1000 * number - at;
            }
        }

        private int next() {
            return at >= 0 && at < size && at < text.bytes.length ? text.bytes[at] : NONE;
        }

        private static boolean isDigit(int sign) {
            return sign >= '0' && sign <= '9';
        }
    }

    /** What THE LAW makes of a lake. */
    private static final class Nature {
        private static final int MOST_BEARS = 9999;
        private static final int MOST_THAW = 9;
        private static final int MOST_PULL = 999;

        Law law = new Law();
        private final int[] overloaded = new int[MOST_GROUPS];

        int bears(Lake lake, int square) {
            law.lookAt(lake, square, lake.kindAt(square));
            return law.says('b', MOST_BEARS);
        }

        boolean allows(Lake lake, int square, int kind) {
            law.lookAt(lake, square, kind);
            return law.says('c', 1) > 0;
        }

        int pull(Lake lake, int hole, int g) {
            law.lookFrom(lake, hole, g);
            return law.says('g', MOST_PULL);
        }

        /** The HOLE that draws a GROUP most, or NONE. */
        int strongest(Lake lake, int g) {
            int best = NONE;
            int most = 0;
            for (int hole = 0; hole < lake.holes; hole++) {
                int pull = lake.isOpen(hole) ? pull(lake, hole, g) : 0;
                if (pull > most) {
                    most = pull;
                    best = hole;
                }
            }
            return best;
        }

        /** How many drown in n MINUTES. */
        int pass(Lake lake, int n) {
            int before = lake.drownedTotal();
            for (int i = 0; i < n; i++) {
                thaw(lake);
                for (int g = 0; g < lake.groups; g++) {
                    walk(lake, g, lake.isAfloat(g) ? strongest(lake, g) : NONE);
                }
                settleAll(lake);
                lake.minute++;
            }
            return lake.drownedTotal() - before;
        }

        private void thaw(Lake lake) {
            if (!law.has('t')) {
                return;
            }
            // t asks only for the THICK of its own SQUARE, so each can thaw in its turn
            for (int square = 0; square < SQUARES; square++) {
                if (lake.thick[square] > 0 && !lake.isBroken(square)) {
                    law.lookAt(lake, square, lake.kindAt(square));
                    lake.thick[square] = Math.max(0, lake.thick[square] - law.says('t', MOST_THAW));
                }
            }
        }

        /** One SQUARE nearer to a HOLE, if there is one (not NONE) and it is not near. */
        private void walk(Lake lake, int g, int hole) {
            if (hole == NONE) {
                return;
            }
            int from = lake.groupSquare[g];
            int to = lake.holeSquare[hole];
            if (Grid.way(from, to) <= 1) {
                return;
            }
            int stepX = Integer.compare(Grid.xOf(to), Grid.xOf(from));
            int stepY = Integer.compare(Grid.yOf(to), Grid.yOf(from));
            boolean gone = stepX != 0 && lake.stepGroup(g, stepX, 0);
            if (!gone && stepY != 0) {
                lake.stepGroup(g, 0, stepY);
            }
        }

        /** How many SQUARES break. */
        int settleAll(Lake lake) {
            int fallen = 0;
            // each round drowns a GROUP, so there are no more rounds than GROUPS
            for (int round = 0; round < MOST_GROUPS; round++) {
                int many = findOverloaded(lake);
                if (many == 0) {
                    break;
                }
                for (int i = 0; i < many; i++) {
                    lake.breakAt(overloaded[i]);
                }
                fallen += many;
            }
            return fallen;
        }

        /** No SQUARE BEARS less than 0, so only those with a GROUP can carry too much. */
        private int findOverloaded(Lake lake) {
            int many = 0;
            for (int g = 0; g < lake.groups; g++) {
                int square = lake.groupSquare[g];
                if (lake.isFirm(square) && !isListed(square, many)
                        && lake.carried(square) > bears(lake, square)) {
                    overloaded[many] = square;
                    many++;
                }
            }
            return many;
        }

        private boolean isListed(int square, int many) {
            for (int i = 0; i < many; i++) {
                if (overloaded[i] == square) {
                    return true;
                }
            }
            return false;
        }

        /** Whether a break at a SQUARE breaks the told SQUARES and no others; the lake is left broken. */
        boolean fellsJust(Lake lake, int square, Told told) {
            lake.breakAt(square);
            int fallen = 1 + settleAll(lake);
            return fallen == told.total && told.allBroken(lake);
        }

        int soundTime(Lake lake, int hole, int load) {
            int least = MOST_MINUTES;
            for (int i = 0; i < NEIGHBOURS; i++) {
                int beside = Grid.neighbour(lake.holeSquare[hole], i);
                if (beside != NONE && lake.isFirm(beside)) {
                    least = bearingTime(lake, beside, load, least);
                }
            }
            return least;
        }

        /** For how many MINUTES, most at most, a SQUARE BEARS a load while it thaws. */
        private int bearingTime(Lake lake, int square, int load, int most) {
            law.lookAt(lake, square, lake.kindAt(square));
            int thick = lake.thick[square];
            for (int i = 0; i < most; i++) {
                law.lookLater(thick, lake.minute + i);
                if (law.says('b', MOST_BEARS) < load) {
                    return i;
                }
                thick = Math.max(0, thick - law.says('t', MOST_THAW));
            }
            return most;
        }
    }

    /** PLACES. */
    private static final class Sites {
        // the worth of each set (bits), or NONE if it is not FINE
        private final int[] worth = new int[1 << MOST_PAIRS];
        private final boolean[] usable = new boolean[MOST_PAIRS];
        // by pairs: which third ones make a ROW with them
        private final int[] rows = new int[MOST_PAIRS * MOST_PAIRS];
        private final int[] barred = new int[MOST_PAIRS];

        int worthOf(int set) {
            return set >= 0 && set < worth.length ? worth[set] : NONE;
        }

        /** The bits of the best FINE set. */
        int best(Lake lake, Nature nature, Told told) {
            int n = Math.min(told.total, MOST_PAIRS);
            for (int i = 0; i < n; i++) {
                int square = told.square[i];
                usable[i] = lake.isFree(square) && !lake.isBesideHole(square)
                        && !lake.makesRow(square) && nature.allows(lake, square, 0);
                barred[i] = 0;
                for (int j = 0; j < i; j++) {
                    bar(lake, told, i, j);
                }
            }
            worth[0] = 0;
            int best = 0;
            for (int last = 0; last < n; last++) {
                for (int rest = 0; rest < 1 << last; rest++) {
                    int set = rest | 1 << last;
                    boolean fine = worth[rest] != NONE && isFine(last, rest);
                    worth[set] = fine ? worth[rest] + told.worth[last] : NONE;
                    best = isBetter(set, best) ? set : best;
                }
            }
            return best;
        }

        /** Learns what the i-th told SQUARE and the j-th one (j below i) forbid together. */
        private void bar(Lake lake, Told told, int i, int j) {
            int a = told.square[i];
            int b = told.square[j];
            boolean clash = Grid.touch(a, b);
            for (int hole = 0; hole < lake.holes; hole++) {
                clash = clash || lake.isOpen(hole) && Grid.inRow(a, b, lake.holeSquare[hole]);
            }
            if (clash) {
                barred[i] |= 1 << j;
            }
            int thirds = 0;
            for (int k = 0; k < j; k++) {
                if (Grid.inRow(a, b, told.square[k])) {
                    thirds |= 1 << k;
                }
            }
            rows[i * MOST_PAIRS + j] = thirds;
        }

        /** Whether the last one may come to a FINE set of ones before it. */
        private boolean isFine(int last, int rest) {
            if (!usable[last] || (barred[last] & rest) != 0) {
                return false;
            }
            for (int j = 0; j < last; j++) {
                if ((rest >> j & 1) != 0 && (rows[last * MOST_PAIRS + j] & rest) != 0) {
                    return false;
                }
            }
            return true;
        }

        /** Sets are asked by rising numbers, so of like ones the one before stays. */
        private boolean isBetter(int set, int best) {
            return worth[set] > worth[best]
                    || worth[set] == worth[best] && Integer.bitCount(set) < Integer.bitCount(best);
        }
    }

    /** CLOSING. */
    private static final class Closing {
        private static final int FAR_ABOVE = 1 << 30;

        private final int[] hole = new int[MOST_CLOSED];
        private final int[] takes = new int[MOST_CLOSED];
        private final int[] until = new int[MOST_CLOSED];
        private final int[] loss = new int[MOST_CLOSED];
        private int total = 0;
        // by sets that are shut: how long that took, and what the others cost at least
        private final int[] time = new int[1 << MOST_CLOSED];
        private final int[] rest = new int[1 << MOST_CLOSED];

        void solve(Lake lake, Nature nature, int holes, int load) {
            list(lake, nature, holes, load);
            int all = (1 << total) - 1;
            time[0] = 0;
            for (int i = 0; i < total; i++) {
                for (int before = 0; before < 1 << i; before++) {
                    time[before | 1 << i] = time[before] + takes[i];
                }
            }
            rest[all] = 0;
            for (int set = all - 1; set >= 0; set--) {
                rest[set] = FAR_ABOVE;
                for (int i = 0; i < total; i++) {
                    if ((set >> i & 1) == 0) {
                        rest[set] = Math.min(rest[set], costOf(i, set));
                    }
                }
            }
        }

        private void list(Lake lake, Nature nature, int holes, int load) {
            total = 0;
            for (int h = 0; h < MOST_HOLES && total < MOST_CLOSED; h++) {
                if ((holes >> h & 1) != 0) {
                    hole[total] = h;
                    takes[total] = 1 + lake.kind[h];
                    until[total] = nature.soundTime(lake, h, load);
                    loss[total] = 10 + 5 * lake.heat[h];
                    total++;
                }
            }
        }

        /** What the i-th and all behind it cost at least, if it comes next behind a set. */
        private int costOf(int i, int set) {
            boolean late = time[set] + takes[i] > until[i];
            return rest[set | 1 << i] + (late ? loss[i] : 0);
        }

        int cost() {
            return rest[0];
        }

        int holeAt(int place) {
            int set = 0;
            int shut = NONE;
            for (int p = 0; p <= place && p < total; p++) {
                int next = nextBehind(set);
                set |= 1 << next;
                shut = hole[next];
            }
            return shut;
        }

        /** The lowest that keeps to the least cost. */
        private int nextBehind(int set) {
            for (int i = 0; i < total; i++) {
                if ((set >> i & 1) == 0 && costOf(i, set) == rest[set]) {
                    return i;
                }
            }
            return 0;
        }
    }

    /** RESCUE. */
    private static final class Rescue {
        private static final int PLANK_BEARS = 100;
        // one PLANK counts more than all steps that a way can have
        private static final int PLANK = 1024;
        private static final int FAR = 1 << 30;

        // what going onto a SQUARE costs in PLANKS, or NONE if it can't be gone over
        private final int[] plank = new int[SQUARES];
        // PLANKS and steps from a SQUARE on to the last one, its own PLANK with them
        private final int[] cost = new int[SQUARES];
        private final int[] queue = new int[SQUARES];
        private final boolean[] waits = new boolean[SQUARES];
        private int start = 0;

        /** Whether there is a way. */
        boolean solve(Lake lake, Nature nature, int from, int to, int weight) {
            start = from;
            for (int square = 0; square < SQUARES; square++) {
                plank[square] = planksAt(lake, nature, square, weight);
                cost[square] = FAR;
                waits[square] = false;
            }
            if (plank[from] == NONE || plank[to] == NONE) {
                return false;
            }
            cost[to] = plank[to] * PLANK;
            spreadFrom(to);
            return cost[from] != FAR;
        }

        private static int planksAt(Lake lake, Nature nature, int square, int weight) {
            if (!lake.isFirm(square)) {
                return NONE;
            }
            int bears = nature.bears(lake, square);
            if (bears >= weight) {
                return 0;
            }
            return bears + PLANK_BEARS >= weight ? 1 : NONE;
        }

        /** Betters the costs of SQUARES beside those that were bettered, first come first. */
        private void spreadFrom(int to) {
            int head = 0;
            int waiting = 1;
            queue[0] = to;
            waits[to] = true;
            for (int i = 0; i < SQUARES * SQUARES && waiting > 0; i++) {
                int square = queue[head];
                head = (head + 1) % SQUARES;
                waiting--;
                waits[square] = false;
                for (int s = 0; s < SIDES; s++) {
                    int beside = Grid.side(square, s);
                    if (beside != NONE && isBettered(beside, cost[square] + 1) && !waits[beside]) {
                        waits[beside] = true;
                        queue[(head + waiting) % SQUARES] = beside;
                        waiting++;
                    }
                }
            }
        }

        private boolean isBettered(int square, int costBehind) {
            if (plank[square] == NONE || costBehind + plank[square] * PLANK >= cost[square]) {
                return false;
            }
            cost[square] = costBehind + plank[square] * PLANK;
            return true;
        }

        int planks() {
            return cost[start] / PLANK;
        }

        int steps() {
            return cost[start] % PLANK;
        }

        /** Sides come by rising numbers, so the first that keeps to the least cost is the least row. */
        int squareAt(int place) {
            int square = start;
            for (int p = 0; p < place && p < SQUARES; p++) {
                square = nextFrom(square);
            }
            return square;
        }

        private int nextFrom(int square) {
            int behind = cost[square] - plank[square] * PLANK - 1;
            for (int s = 0; s < SIDES; s++) {
                int beside = Grid.side(square, s);
                if (beside != NONE && cost[beside] == behind) {
                    return beside;
                }
            }
            return square;
        }
    }
}
