/** The sentences about the lake and its minutes that name a bound or a tie. */
public final class EdgeLakeTest extends Bench {
    private static final String FREE = "c1(1=1);b99(1=1)";

    public static void main(String[] args) {
        callsOfAnObject();
        numbersOfSquares();
        twelveHoles();
        oneHoleEach();
        iceAgain();
        eightGroups();
        neighboursOfBroken();
        neighboursOfHoles();
        warmthOfHoles();
        mostGapsAndWarmth();
        rowsBySteps();
        rowsOfOpenOnes();
        cutOnlyThere();
        carriesMore();
        roundByRound();
        thawNotBelowZero();
        thawOfWholeOnes();
        wayAboveOne();
        drawsItMost();
        alongX();
        alongY();
        staysThere();
        goesByNumbers();
        orderInAMinute();
        drawnX();
        drawnGroups();
        drawnDirections();
        drawnOrder();
        end();
    }

    private static void callsOfAnObject() {
        about("An object is used for at most 512 calls");
        HoleFair f = new HoleFair();
        f.feed('b' << 24 | 'm' << 16 | '(' << 8 | '1', '=' << 24 | '1' << 16 | ')' << 8, 0, 0, 0);
        due("the 2nd", f.law(7), 1);
        for (int call = 3; call <= 510; call++) {
            due("call " + call, f.minutes(60), 0);
        }
        due("the 511th", f.count(0), 508 * 60);
        due("the 512th", f.square(0, 0, 2), 9999);
    }

    private static void numbersOfSquares() {
        about("SQUARES 0 to 15 by 0 to 15 (number: 16 y and x)");
        int[][] squares = {{0, 0, 0}, {15, 0, 15}, {0, 1, 16}, {1, 0, 1}, {0, 15, 240}, {15, 15, 255}, {7, 9, 151}};
        HoleFair f = with(FREE);
        for (int i = 0; i < squares.length; i++) {
            int x = squares[i][0];
            int y = squares[i][1];
            int number = squares[i][2];
            due("of a group", f.groupIs(f.group(x, y, 1), 0), number);
            due("of a run", f.run(1, 10 + i), number);
            due("of a way", f.rescue(number, number, 99, 0), number);
            HoleFair h = with(FREE);
            due("of a hole", h.holeIs(h.cut(x, y, 0, 0, 0, 0), 0), number);
            due("there", h.square(x, y, 1), 2);
            feed(h, number, 9);
            due("told", h.fee(1, 0, -1), -2);
        }
    }

    /** Twelve HOLES by steps of 4, which are no ROWS. */
    private static HoleFair twelve() {
        HoleFair f = with(FREE);
        for (int i = 0; i < 12; i++) {
            due("hole " + i, f.cut(i % 4 * 4, i / 4 * 4, i % 5, i % 10, (i + 1) % 10, (i + 2) % 10), i);
        }
        return f;
    }

    private static void twelveHoles() {
        about("HOLES 0 to 11: a SQUARE, a KIND (0 to 4), HEAT, SMELL, PRICE (0 to 9 each); OPEN or SHUT");
        HoleFair f = twelve();
        due("twelve", f.count(1), 12);
        for (int i = 0; i < 12; i++) {
            int[] want = {i / 4 * 64 + i % 4 * 4, 1, i % 5, i % 10, (i + 1) % 10, (i + 2) % 10};
            for (int what = 0; what < 6; what++) {
                due("hole " + i + ", " + what, f.holeIs(i, what), want[what]);
            }
        }
        due("no thirteenth", f.cut(0, 12, 0, 0, 0, 0), -1);
        due("no such number", f.holeIs(12, 0), -1);
        about("12 are there (SHUT ones, too)");
        for (int i = 0; i < 12; i++) {
            due("shut " + i, f.shut(i), true);
            due("no thirteenth", f.cut(0, 12, 0, 0, 0, 0), -1);
        }
        due("twelve", f.count(1), 12);
    }

    private static void oneHoleEach() {
        about("each at most with one HOLE; CUT is a HOLE at a whole SQUARE without an OPEN HOLE");
        HoleFair f = with(FREE);
        due("the first", f.cut(5, 5, 1, 2, 3, 4), 0);
        due("none upon it", f.cut(5, 5, 0, 0, 0, 0), -1);
        f.shut(0);
        due("where one is shut", f.cut(5, 5, 4, 9, 8, 7), 1);
        due("the shut one stays shut", f.holeIs(0, 1), 0);
        due("the other is open", f.holeIs(1, 1), 1);
        due("its kind", f.holeIs(1, 2), 4);
        due("the shut one's kind", f.holeIs(0, 2), 1);
        due("warmth is that of the open one", f.square(5, 5, 5), 9);
        due("one gap", f.square(5, 6, 4), 1);
        due("the first can't be shut", f.shut(0), false);
        due("the second can", f.shut(1), true);
        due("no gap", f.square(5, 6, 4), 0);
    }

    private static void iceAgain() {
        about("OPEN or SHUT (a SHUT one is ice again)");
        HoleFair f = with("c1(1=1);b30(1=1);gs(1=1)");
        f.cut(5, 5, 1, 2, 9, 4);
        f.ice(5, 5, 20);
        f.group(7, 5, 30);
        f.shut(0);
        due("whole", f.square(5, 5, 1), 0);
        due("as thick as it was", f.square(5, 5, 0), 20);
        due("no warmth", f.square(5, 5, 5), 0);
        due("no gap", f.square(4, 4, 4), 0);
        due("draws none", f.draws(0, 0), -1);
        due("draws none most", f.groupIs(0, 2), -1);
        due("not sound", f.sound(0, 0), -1);
        due("its numbers stay", f.holeIs(0, 4), 9);
        due("a way goes over it", f.rescue(84, 86, 1, 1), 85);
        numbers(f, 50, 50, 50, 50, 50, 20);
        due("seen as ice", f.check(5, 6), -1);
        due("a group can stand there", f.group(5, 5, 31), 1);
        due("and break it", f.settle(), 1);
        due("broken", f.square(5, 5, 1), 1);
        due("a broken one's hole is shut", f.holeIs(0, 1), 0);
    }

    private static void eightGroups() {
        about("GROUPS 0 to 7: a SQUARE, a WEIGHT (1 to 99); drowned or not");
        HoleFair f = with("b98(1=1)");
        for (int i = 0; i < 8; i++) {
            due("group " + i, f.group(i, i, i == 7 ? 99 : i == 0 ? 1 : 10 * i), i);
        }
        due("no ninth", f.group(9, 9, 1), -1);
        for (int i = 0; i < 8; i++) {
            due("its square", f.groupIs(i, 0), 17 * i);
            due("its weight", f.groupIs(i, 1), i == 7 ? 99 : i == 0 ? 1 : 10 * i);
        }
        due("no such number", f.groupIs(8, 0), -1);
        due("99 are too many", f.settle(), 1);
        due("drowned", f.groupIs(7, 0), -2);
        due("its weight", f.groupIs(7, 1), 99);
        due("a drowned one is there, too: no ninth", f.group(9, 9, 1), -1);
        due("eight", f.count(2), 8);
    }

    private static boolean beside(int x, int y, int u, int v) {
        return Math.abs(x - u) <= 1 && Math.abs(y - v) <= 1 && (x != u || y != v);
    }

    private static void neighboursOfBroken() {
        about("NEIGHBOURS: those beside it (up to eight). GAPS: of its NEIGHBOURS those that are BROKEN");
        for (int s = 0; s < 256; s++) {
            HoleFair f = new HoleFair();
            f.group(s % 16, s / 16, 1);
            f.settle();
            int gaps = 0;
            for (int q = 0; q < 256; q++) {
                int want = beside(s % 16, s / 16, q % 16, q / 16) ? 1 : 0;
                due("gaps of " + q + " by " + s, f.square(q % 16, q / 16, 4), want);
                gaps += want;
            }
            boolean endX = s % 16 == 0 || s % 16 == 15;
            boolean endY = s / 16 == 0 || s / 16 == 15;
            due("so many have it", gaps, endX && endY ? 3 : endX || endY ? 5 : 8);
            brokenIsNotWarm(s);
        }
    }

    /** Nor is a SQUARE warm that was mended. */
    private static void brokenIsNotWarm(int s) {
        HoleFair f = new HoleFair();
        f.group(s % 16, s / 16, 1);
        f.settle();
        for (int mended = 0; mended < 2; mended++) {
            for (int dy = -1; dy <= 1; dy++) {
                for (int dx = -1; dx <= 1; dx++) {
                    int x = Math.floorMod(s % 16 + dx, 16);
                    int y = Math.floorMod(s / 16 + dy, 16);
                    due("no warmth of a broken or a mended one", f.square(x, y, 5), 0);
                    due("no gap beside a mended one", mended == 0 || f.square(x, y, 4) == 0, true);
                }
            }
            f.ice(s % 16, s / 16, 9);
        }
    }

    private static void neighboursOfHoles() {
        about("GAPS: or have an OPEN HOLE, how many");
        for (int s = 0; s < 256; s += s % 16 == 0 || s % 16 == 14 ? 1 : 7) {
            HoleFair f = with(FREE);
            f.cut(s % 16, s / 16, 0, 0, 0, 0);
            for (int q = 0; q < 256; q++) {
                int want = beside(s % 16, s / 16, q % 16, q / 16) ? 1 : 0;
                due("gaps of " + q + " by " + s, f.square(q % 16, q / 16, 4), want);
            }
            f.shut(0);
            for (int q = 0; q < 256; q += 3) {
                due("no gap of " + q + " by " + s, f.square(q % 16, q / 16, 4), 0);
            }
        }
    }

    private static void warmthOfHoles() {
        about("WARMTH: HEATS of OPEN HOLES of it and of its NEIGHBOURS, together");
        for (int s = 0; s < 256; s += s % 16 == 0 || s % 16 == 14 ? 1 : 7) {
            HoleFair f = with(FREE);
            f.cut(s % 16, s / 16, 0, 1 + s % 9, 0, 0);
            for (int q = 0; q < 256; q++) {
                boolean warm = q == s || beside(s % 16, s / 16, q % 16, q / 16);
                due("warmth of " + q + " by " + s, f.square(q % 16, q / 16, 5), warm ? 1 + s % 9 : 0);
            }
            f.shut(0);
            for (int q = 0; q < 256; q += 3) {
                due("no warmth of " + q + " by " + s, f.square(q % 16, q / 16, 5), 0);
            }
        }
    }

    private static void mostGapsAndWarmth() {
        about("GAPS and WARMTH, all eight NEIGHBOURS and itself");
        HoleFair f = new HoleFair();
        for (int i = 0; i < 9; i++) {
            if (i != 4) {
                f.group(4 + i % 3, 4 + i / 3, 1);
            }
        }
        due("all eight break", f.settle(), 8);
        due("eight gaps", f.square(5, 5, 4), 8);
        for (int i = 0; i < 9; i++) {
            if (i != 4) {
                due("a gap less", f.ice(4 + i % 3, 4 + i / 3, 9), true);
                due("a gap less", f.square(5, 5, 4), i < 4 ? 7 - i : 8 - i);
            }
        }
        f = with(FREE);
        int[] six = {0, 1, 3, 5, 7, 8};
        for (int i : six) {
            f.cut(4 + i % 3, 4 + i / 3, 0, 9, 0, 0);
        }
        due("six of them, no three in a row", f.count(1), 6);
        due("six gaps", f.square(5, 5, 4), 6);
        due("six times 9", f.square(5, 5, 5), 54);
        due("its own with those beside it", f.square(4, 4, 5), 27);
        due("not its own gap", f.square(4, 4, 4), 2);
    }

    private static void rowsBySteps() {
        about("A ROW: three HOLES (OPEN) on a straight line at like steps (dx, dy; -3 to 3 each, not both 0)");
        for (int dx = -4; dx <= 4; dx++) {
            for (int dy = -4; dy <= 4; dy++) {
                if (dx == 0 && dy == 0) {
                    continue;
                }
                boolean row = Math.abs(dx) <= 3 && Math.abs(dy) <= 3;
                HoleFair f = with(FREE);
                f.cut(8 - dx, 8 - dy, 0, 0, 0, 0);
                f.cut(8 + dx, 8 + dy, 0, 0, 0, 0);
                due("the middle by " + dx + ", " + dy, f.cut(8, 8, 0, 0, 0, 0), row ? -3 : 2);
                f = with(FREE);
                f.cut(8, 8, 0, 0, 0, 0);
                f.cut(8 - dx, 8 - dy, 0, 0, 0, 0);
                due("an end by " + dx + ", " + dy, f.cut(8 + dx, 8 + dy, 0, 0, 0, 0), row ? -3 : 2);
            }
        }
        HoleFair f = with(FREE);
        f.cut(3, 3, 0, 0, 0, 0);
        f.cut(5, 3, 0, 0, 0, 0);
        due("unlike steps", f.row(8, 3), 0);
        due("no straight line", f.row(7, 4), 0);
        due("like steps", f.row(7, 3), 1);
        due("not both 0: itself is no row", f.row(3, 3), 0);
        f = with(FREE);
        f.cut(0, 0, 0, 0, 0, 0);
        f.cut(14, 0, 0, 0, 0, 0);
        due("beyond a side nothing goes on at the other one", f.row(15, 0), 0);
        due("nor in the row below", f.row(0, 1), 0);
        f.cut(15, 1, 0, 0, 0, 0);
        due("nor there", f.row(0, 3), 0);
    }

    private static void rowsOfOpenOnes() {
        about("A ROW: three HOLES (OPEN)");
        HoleFair f = with(FREE);
        f.cut(3, 3, 0, 0, 0, 0);
        f.cut(6, 6, 0, 0, 0, 0);
        due("a row", f.row(9, 9), 1);
        f.shut(0);
        due("a shut one is in none", f.row(9, 9), 0);
        due("cut", f.cut(9, 9, 0, 0, 0, 0), 2);
        due("now the shut one's place is in one", f.cut(3, 3, 0, 0, 0, 0), -3);
        due("as is the other end", f.cut(12, 12, 0, 0, 0, 0), -3);
        f = with("c1(1=1)");
        f.cut(3, 3, 0, 0, 0, 0);
        f.group(6, 3, 1);
        f.settle();
        due("broken", f.square(6, 3, 1), 1);
        due("a broken one is in none", f.row(9, 3), 0);
    }

    private static void cutOnlyThere() {
        about("CUT is a HOLE at a whole SQUARE without an OPEN HOLE, where no GROUP stands, if THE LAW lets it");
        HoleFair f = with("c1(i>20);b50(1=1)");
        f.ice(1, 1, 20);
        due("the law does not", f.cut(1, 1, 0, 0, 0, 0), -2);
        f.ice(1, 1, 21);
        f.keep();
        due("the law does", f.cut(1, 1, 0, 0, 0, 0), 0);
        f.undo();
        f.group(1, 1, 1);
        due("a group of 1", f.cut(1, 1, 0, 0, 0, 0), -1);
        due("not beside it", f.cut(2, 1, 0, 0, 0, 0), 0);
        f.group(1, 1, 50);
        f.settle();
        due("broken, its groups drowned", f.cut(1, 1, 0, 0, 0, 0), -1);
        f.ice(1, 1, 21);
        due("whole again", f.cut(1, 1, 0, 0, 0, 0), 1);
        due("a row, if the law lets it", f.cut(3, 1, 0, 0, 0, 0), -3);
        f.ice(3, 1, 20);
        due("the law ahead of a row", f.cut(3, 1, 0, 0, 0, 0), -2);
    }

    private static void carriesMore() {
        about("SETTLED: carries (WEIGHTS of GROUPS on it, together) more than it BEARS");
        for (int weight = 1; weight <= 99; weight += 7) {
            HoleFair f = with("b" + weight + "(1=1)");
            f.group(4, 4, weight);
            due("as much as it bears", f.settle(), 0);
            law(f, "b" + (weight - 1) + "(1=1)");
            due("one more", f.settle(), 1);
            due("once", f.settle(), 0);
        }
        HoleFair f = with("b792(1=1)");
        for (int i = 0; i < 8; i++) {
            f.group(4, 4, 99);
        }
        due("all eight together", f.square(4, 4, 3), 792);
        due("as much as it bears", f.settle(), 0);
        law(f, "b791(1=1)");
        due("one more", f.settle(), 1);
        due("all drown", f.count(7), 8);
        due("it carries none then", f.square(4, 4, 3), 0);
        f = with("b0(1=1)");
        due("carrying nothing is not more than 0", f.settle(), 0);
        f.group(4, 4, 1);
        due("one is", f.settle(), 1);
    }

    private static void roundByRound() {
        about("all such at once are BROKEN; GROUPS on them are drowned (round by round)");
        HoleFair f = with("b10(n=0);b99(1=1)");
        f.group(4, 4, 11);
        f.group(5, 4, 11);
        f.group(6, 4, 11);
        due("at once: a gap would have borne them", f.settle(), 3);
        f = with("b10(n=0);b99(n=1);b0(1=1)");
        f.group(4, 4, 11);
        f.group(5, 4, 10);
        f.group(6, 4, 11);
        // first 4 and 6 at once, then 5 between two gaps
        due("the second round", f.settle(), 3);
        f = with("b20-n*10(1=1)");
        for (int i = 0; i < 8; i++) {
            f.group(i, 9, i == 3 ? 21 : 11);
        }
        due("eight in five rounds", f.settle(), 8);
        due("all drown", f.count(7), 8);
        f = with("b20-n*10(1=1)");
        for (int i = 0; i < 8; i++) {
            f.group(i, 9, i == 0 ? 21 : i == 5 ? 10 : 11);
        }
        due("till one holds", f.settle(), 5);
        due("it stands", f.groupIs(5, 0), 149);
        due("five drown", f.count(7), 5);
    }

    private static void thawNotBelowZero() {
        about("each whole SQUARE is less THICK by t (all as ahead of it; not below 0)");
        HoleFair f = with("t9(1=1)");
        int[] before = {99, 10, 9, 8, 1, 0};
        int[] after = {90, 1, 0, 0, 0, 0};
        for (int x = 0; x < 6; x++) {
            f.ice(x, 0, before[x]);
        }
        f.minutes(1);
        for (int x = 0; x < 6; x++) {
            due("by 9 from " + before[x], f.square(x, 0, 0), after[x]);
        }
        f.minutes(60);
        due("never below 0", f.square(0, 0, 0), 0);
        f = with("t1(i>40);t5(i>20);t0(1=1)");
        f.minutes(10);
        due("by 1 down to 40", f.square(7, 7, 0), 40);
        f.minutes(1);
        due("then by 5", f.square(7, 7, 0), 35);
        f.minutes(3);
        due("down to 20", f.square(7, 7, 0), 20);
        f.minutes(60);
        due("then by 0", f.square(7, 7, 0), 20);
        f = with("t1(m=0);t2(m=1);t3(m=59)");
        f.minutes(60);
        due("by the minute that it is then", f.square(7, 7, 0), 44);
    }

    private static void thawOfWholeOnes() {
        about("each whole SQUARE is less THICK by t");
        HoleFair f = with("t1(1=1);c1(1=1)");
        f.group(3, 3, 1);
        f.settle();
        f.cut(8, 8, 0, 0, 0, 0);
        f.cut(8, 12, 0, 0, 0, 0);
        f.shut(1);
        f.minutes(5);
        due("a broken one stays", f.square(3, 3, 0), 50);
        due("one with an open hole is whole", f.square(8, 8, 0), 45);
        due("one with a shut hole", f.square(8, 12, 0), 45);
        due("any other", f.square(15, 15, 0), 45);
        f.ice(3, 3, 30);
        f.minutes(1);
        due("a mended one", f.square(3, 3, 0), 29);
    }

    private static HoleFair drawnBy(int holeX, int holeY, int x, int y) {
        HoleFair f = with("c1(1=1);b99(1=1);gs(1=1)");
        f.cut(holeX, holeY, 0, 0, 9, 0);
        f.group(x, y, 1);
        return f;
    }

    private static void wayAboveOne() {
        about("if THE WAY to it is above 1 it goes one SQUARE nearer");
        for (int x = 4; x <= 10; x++) {
            for (int y = 4; y <= 10; y++) {
                int way = Math.abs(x - 7) + Math.abs(y - 7);
                if (way > 0) {
                    HoleFair f = drawnBy(7, 7, x, y);
                    f.minutes(1);
                    int toX = way > 1 && x != 7 ? x + (x < 7 ? 1 : -1) : x;
                    int toY = way > 1 && x == 7 ? y + (y < 7 ? 1 : -1) : y;
                    due("from " + x + ", " + y, f.groupIs(0, 0), 16 * toY + toX);
                }
            }
        }
        HoleFair f = drawnBy(0, 0, 15, 15);
        f.minutes(28);
        due("a way of 2", f.groupIs(0, 0), 32);
        f.minutes(1);
        due("a way of 1", f.groupIs(0, 0), 16);
        f.minutes(60);
        due("it stays there", f.groupIs(0, 0), 16);
    }

    private static void drawsItMost() {
        about("the HOLE (OPEN) that draws it most (of like ones the lowest; by 0 none)");
        HoleFair f = with("c1(1=1);b99(1=1);gs(1=1)");
        f.group(7, 7, 1);
        due("no hole", f.groupIs(0, 2), -1);
        f.cut(1, 7, 0, 0, 0, 0);
        due("by 0", f.groupIs(0, 2), -1);
        f.minutes(1);
        due("by 0 it stays", f.groupIs(0, 0), 119);
        f.cut(14, 7, 0, 0, 1, 0);
        due("by 1", f.groupIs(0, 2), 1);
        f.cut(1, 2, 0, 0, 1, 0);
        due("of like ones the lowest", f.groupIs(0, 2), 1);
        f.minutes(1);
        due("it goes there", f.groupIs(0, 0), 120);
        f.cut(1, 12, 0, 0, 2, 0);
        due("by one more", f.groupIs(0, 2), 3);
        f.minutes(1);
        due("it goes there", f.groupIs(0, 0), 119);
        f.shut(3);
        due("a shut one draws none", f.groupIs(0, 2), 1);
        f.shut(1);
        due("the next", f.groupIs(0, 2), 2);
        f.shut(2);
        due("only 0 is left", f.groupIs(0, 2), -1);
    }

    private static void alongX() {
        about("along x if x differs and that SQUARE is whole, without an OPEN HOLE");
        HoleFair f = drawnBy(7, 7, 5, 5);
        f.minutes(1);
        due("along x", f.groupIs(0, 0), 86);
        f = drawnBy(7, 7, 5, 5);
        f.cut(6, 5, 0, 0, 0, 0);
        f.minutes(1);
        due("an open hole there: along y", f.groupIs(0, 0), 101);
        f = drawnBy(7, 7, 5, 5);
        f.cut(6, 5, 0, 0, 0, 0);
        f.shut(1);
        f.minutes(1);
        due("a shut one there: along x", f.groupIs(0, 0), 86);
        f = drawnBy(7, 7, 5, 5);
        breakAt(f, 6, 5);
        f.minutes(1);
        due("broken there: along y", f.groupIs(0, 0), 101);
        f = drawnBy(7, 7, 5, 5);
        breakAt(f, 6, 5);
        f.ice(6, 5, 0);
        f.minutes(1);
        due("whole again, and 0 thick: along x", f.groupIs(0, 0), 86);
        f = drawnBy(7, 7, 5, 5);
        f.group(6, 5, 1);
        f.minutes(1);
        due("a group there: along x", f.groupIs(0, 0), 86);
    }

    private static void breakAt(HoleFair f, int x, int y) {
        law(f, "b0(x=" + x + "&y=" + y + ");b99(1=1);c1(1=1);gs(1=1)");
        int g = f.group(x, y, 1);
        f.settle();
        due("broken by group " + g, f.square(x, y, 1), 1);
        law(f, "b99(1=1);c1(1=1);gs(1=1)");
    }

    private static void alongY() {
        about("else along y if y differs and that SQUARE is so");
        HoleFair f = drawnBy(7, 7, 7, 4);
        f.minutes(1);
        due("x is like", f.groupIs(0, 0), 87);
        f = drawnBy(7, 7, 7, 10);
        f.minutes(1);
        due("up", f.groupIs(0, 0), 151);
        f = drawnBy(7, 7, 4, 7);
        breakAt(f, 5, 7);
        f.minutes(1);
        due("y is like: it stays", f.groupIs(0, 0), 116);
        f = drawnBy(7, 7, 7, 4);
        breakAt(f, 7, 5);
        f.minutes(1);
        due("x is like, broken there: it stays", f.groupIs(0, 0), 71);
    }

    private static void staysThere() {
        about("else it stays");
        HoleFair f = drawnBy(7, 7, 5, 5);
        f.cut(6, 5, 0, 0, 0, 0);
        breakAt(f, 5, 6);
        f.minutes(3);
        due("a hole and a broken one", f.groupIs(0, 0), 85);
        f = drawnBy(7, 7, 5, 5);
        f.cut(5, 6, 0, 0, 0, 0);
        breakAt(f, 6, 5);
        f.minutes(3);
        due("a broken one and a hole", f.groupIs(0, 0), 85);
        f.shut(1);
        f.minutes(1);
        due("shut: it goes", f.groupIs(0, 0), 101);
    }

    private static void goesByNumbers() {
        about("then GROUPS by numbers");
        HoleFair f = with("c1(1=1);b99(1=1);g9-q*9+1(k=0);g5(k=1)");
        f.cut(7, 7, 0, 0, 0, 0);
        f.cut(1, 13, 1, 0, 0, 0);
        f.group(5, 7, 1);
        f.group(7, 9, 1);
        f.minutes(1);
        due("the first goes near", f.groupIs(0, 0), 118);
        due("then the second sees it there", f.groupIs(1, 0), 150);
        f = with("c1(1=1);b99(1=1);g9-q*9+1(k=0);g5(k=1)");
        f.cut(7, 7, 0, 0, 0, 0);
        f.cut(1, 13, 1, 0, 0, 0);
        f.group(7, 9, 1);
        f.group(5, 7, 1);
        f.minutes(1);
        due("the other one first", f.groupIs(0, 0), 135);
        due("then this one", f.groupIs(1, 0), 116);
    }

    private static void orderInAMinute() {
        about("less THICK by t; then GROUPS by numbers; then SETTLED; THE MINUTE is one more");
        HoleFair f = with("bi(1=1);t1(1=1)");
        f.group(3, 3, 50);
        due("it bears it now", f.settle(), 0);
        due("thawed ahead of settling", f.minutes(1), 1);
        f = with("c1(1=1);b99(i=50);b0(1=1);gi(1=1);t1(x=5)");
        f.cut(5, 5, 0, 0, 0, 0);
        f.group(9, 5, 1);
        f.ice(8, 5, 49);
        due("gone ahead of settling", f.minutes(1), 1);
        due("it broke where it went", f.square(8, 5, 1), 1);
        f = with("b99-m(1=1)");
        f.group(3, 3, 98);
        due("minute 0", f.minutes(1), 0);
        due("minute 1", f.minutes(1), 0);
        due("minute 2: one more behind settling", f.minutes(1), 1);
        f = with("c1(1=1);b99(1=1);g9-h(k=0);g5(m>0)");
        f.cut(2, 5, 0, 4, 0, 0);
        f.cut(12, 5, 1, 0, 0, 0);
        f.group(7, 5, 1);
        due("5 of the first, none of the other", f.groupIs(0, 2), 0);
        due("thaw does not change who draws it", f.run(1, 10), 86);
        f = with("c1(1=1);b99(1=1);g50-i(1=1);t1(x=5)");
        f.cut(5, 5, 0, 0, 0, 0);
        f.group(9, 5, 1);
        due("drawn by 0 now", f.groupIs(0, 2), -1);
        f.minutes(1);
        due("thawed ahead of going", f.groupIs(0, 0), 88);
    }

    private static int next(int x) {
        return (int) ((25173L * x + 13849L) % 65536L);
    }

    /** A seed behind which GROUP g is to go in a DIRECTION. */
    private static int seedFor(int g, int direction) {
        for (int seed = 0; seed < 65536; seed++) {
            int x = next(seed);
            if (x % 8 == g && x / 8 % 4 == direction) {
                return seed;
            }
        }
        return -1;
    }

    private static void drawnX() {
        about("X = (25173 X + 13849) modulo 65536 (X is THE SEED at first, 1)");
        HoleFair f = new HoleFair();
        due("1 at first", f.count(5), 1);
        f.draw(1);
        due("behind 1", f.count(5), 39022);
        f.seed(0);
        f.draw(1);
        due("behind 0", f.count(5), 13849);
        f.seed(65535);
        f.draw(1);
        due("behind 65535", f.count(5), 54212);
        int[] seeds = {2, 3, 255, 256, 32767, 32768, 40000, 65534};
        for (int seed : seeds) {
            f.seed(seed);
            f.draw(60);
            int x = seed;
            for (int i = 0; i < 60; i++) {
                x = next(x);
            }
            due("60 times behind " + seed, f.count(5), x);
        }
        due("minutes", f.count(0), 3 + 8 * 60);
    }

    private static void drawnGroups() {
        about("GROUP X modulo 8 (if there is one, not drowned)");
        for (int g = 0; g < 8; g++) {
            HoleFair f = with("b9(1=1)");
            f.seed(seedFor(g, 1));
            for (int i = 0; i < g; i++) {
                f.group(2, i, 1);
            }
            f.keep();
            f.draw(1);
            due("there is none", f.count(0), 1);
            for (int i = 0; i < g; i++) {
                due("another one stays", f.groupIs(i, 0), 16 * i + 2);
            }
            f.undo();
            f.group(2, g, 1);
            f.keep();
            f.draw(1);
            due("the one", f.groupIs(g, 0), 16 * g + 3);
            for (int i = 0; i < g; i++) {
                due("another one stays", f.groupIs(i, 0), 16 * i + 2);
            }
            f.undo();
            law(f, "b0(y=" + g + ");b9(1=1)");
            due("drowned", f.settle(), 1);
            due("it stays drowned", f.draw(1), 0);
            due("it stays drowned", f.groupIs(g, 0), -2);
        }
    }

    private static void drawnDirections() {
        about("in DIRECTION X / 8 modulo 4 (0 y + 1, 1 x + 1, 2 y - 1, 3 x - 1), if that SQUARE is there, whole");
        int[] dx = {0, 1, 0, -1};
        int[] dy = {1, 0, -1, 0};
        int[][] last = {{7, 15}, {15, 7}, {7, 0}, {0, 7}};
        for (int d = 0; d < 4; d++) {
            int seed = seedFor(0, d);
            HoleFair f = drawnFrom(seed, last[d][0], last[d][1]);
            f.draw(1);
            due("no such square", f.groupIs(0, 0), 16 * last[d][1] + last[d][0]);
            due("a minute all the same", f.count(0), 1);
            int x = last[d][0] - dx[d];
            int y = last[d][1] - dy[d];
            f = drawnFrom(seed, x, y);
            f.draw(1);
            due("the last square", f.groupIs(0, 0), 16 * last[d][1] + last[d][0]);
            f = drawnFrom(seed, 7, 7);
            f.cut(7 + dx[d], 7 + dy[d], 0, 0, 0, 0);
            f.keep();
            f.draw(1);
            due("an open hole", f.groupIs(0, 0), 119);
            f.undo();
            f.shut(0);
            f.draw(1);
            due("a shut one", f.groupIs(0, 0), 119 + 16 * dy[d] + dx[d]);
            f = drawnFrom(seed, 7, 7);
            f.group(7 + dx[d], 7 + dy[d], 99);
            law(f, "b98(1=1)");
            f.settle();
            f.draw(1);
            due("broken", f.groupIs(0, 0), 119);
            f = drawnFrom(seed, 7, 7);
            f.group(7 + dx[d], 7 + dy[d], 9);
            f.draw(1);
            due("another group there", f.groupIs(0, 0), 119 + 16 * dy[d] + dx[d]);
        }
    }

    private static HoleFair drawnFrom(int seed, int x, int y) {
        HoleFair f = with(FREE);
        f.seed(seed);
        f.group(x, y, 1);
        return f;
    }

    private static void drawnOrder() {
        about("DRAWN: ahead of each; then a MINUTE");
        HoleFair f = with("b0(x=8);b99(1=1)");
        f.seed(seedFor(0, 1));
        f.group(7, 7, 1);
        due("it goes, then it settles", f.draw(1), 1);
        due("broken there", f.square(8, 7, 1), 1);
        f = with("b0(x=7);b99(1=1)");
        f.seed(seedFor(0, 1));
        f.group(7, 7, 1);
        due("it is gone when it settles", f.draw(1), 0);
        f = with("c1(1=1);b99(1=1);gs(1=1)");
        f.seed(seedFor(0, 1));
        f.cut(3, 7, 0, 0, 9, 0);
        f.group(7, 7, 1);
        f.draw(1);
        due("there and back", f.groupIs(0, 0), 119);
        f = with("b9(1=1);t1(m=0);t2(m=1)");
        f.draw(2);
        due("the minute is told on", f.square(0, 0, 0), 47);
        due("two minutes", f.count(0), 2);
    }
}
