/** Promises 16 to 20, PLACES to FEES: their bounds, their ties, and what empties the tape. */
public final class EdgeSearchTest extends Bench {
    private static final String FREE = "c1(1=1);b99(1=1)";
    private static final int LOW = Integer.MIN_VALUE;
    private static final int HIGH = Integer.MAX_VALUE;

    public static void main(String[] args) {
        placesNumbers();
        placesTwice();
        placesFine();
        placesNeighbours();
        placesRows();
        placesBest();
        closingNumbers();
        closingOpen();
        closingTimes();
        closingCosts();
        closingOrder();
        rescueNumbers();
        rescuePlaces();
        rescuePlanks();
        rescueSquares();
        rescueOrder();
        beganNumbers();
        beganTwice();
        beganSquares();
        feeNumbers();
        feeTwice();
        feeBest();
        end();
    }

    private static int[] pairs(int n, int worth) {
        int[] bytes = new int[2 * n];
        for (int i = 0; i < n; i++) {
            bytes[2 * i] = i % 4 * 4 + i / 4 * 64;
            bytes[2 * i + 1] = worth;
        }
        return bytes;
    }

    private static int places(HoleFair f, int what, int... bytes) {
        feed(f, bytes);
        return f.places(bytes.length / 2, what);
    }

    private static void placesNumbers() {
        about("promise 16, places: n 1 to 10; -3: no such ones, it has not so many (the tape stays)");
        for (int what : new int[] {-1, 1}) {
            HoleFair f = with(FREE);
            due("no tape", f.places(1, what), -3);
            feed(f, pairs(10, 5));
            f.feed(0, 0, 0, 0, 0);
            due("n 0", f.places(0, what), -3);
            due("n -1", f.places(-1, what), -3);
            due("n 11", f.places(11, what), -3);
            due("far below", f.places(LOW, what), -3);
            due("far above", f.places(HIGH, what), -3);
            due("twice that is 2", f.places(LOW + 1, what), -3);
            due("the tape stays", f.count(4), 40);
            due("n 10", f.places(10, what), what == 1 ? 1023 : 50);
            due("empty then, all of it", f.count(4), 0);
            feed(f, pairs(10, 5));
            due("n 1 of ten", f.places(1, what), what == 1 ? 1 : 5);
            due("empty then, all of it", f.count(4), 0);
        }
        HoleFair f = with(FREE);
        feed(f, pairs(1, 5));
        for (int what : new int[] {LOW, -3, -2, 0, 2, 3, HIGH}) {
            due("no such what " + what, f.places(1, what), -3);
            due("the tape stays", f.count(4), 20);
        }
        due("it is there still", f.places(1, -1), 5);
        about("promise 16, places: a SQUARE, a worth, 0 to 255 each");
        due("square 0, worth 255", places(f, -1, 0, 255), 255);
        due("square 255, worth 255", places(f, -1, 255, 255), 255);
        due("square 255, worth 0", places(f, -1, 255, 0), 0);
        due("square 128, worth 128", places(f, -1, 128, 128), 128);
        due("the most", places(f, -1, pairs(10, 255)), 2550);
    }

    private static void placesTwice() {
        about("promise 16, places: -2: a SQUARE twice");
        for (int first = 0; first < 10; first++) {
            for (int second = 0; second < first; second++) {
                int[] bytes = pairs(10, 1);
                bytes[2 * first] = bytes[2 * second];
                HoleFair f = with(FREE);
                due("twice of ten", places(f, -1, bytes), -2);
                due("empty then", f.count(4), 0);
                feed(f, bytes);
                due("not within the first n", f.places(first == 0 ? 1 : first, 1), (1 << first) - 1);
            }
        }
        HoleFair f = with(FREE);
        due("worths may be alike", places(f, -1, 1, 7, 7, 7), 14);
        due("a square and a worth may be", places(f, -1, 1, 7, 7, 1), 8);
        due("twice though it can't be there", places(new HoleFair(), -1, 3, 1, 3, 2), -2);
    }

    private static void placesFine() {
        about("FINE: whole, without an OPEN HOLE and a GROUP, THE LAW lets a HOLE of KIND 0 be cut there");
        HoleFair f = with("c1(k=0&i>20);b9(1=1)");
        f.ice(0, 0, 20);
        f.ice(4, 0, 21);
        f.group(8, 0, 1);
        f.group(12, 0, 10);
        f.settle();
        f.cut(0, 8, 0, 0, 0, 0);
        f.cut(4, 8, 0, 0, 0, 0);
        f.shut(1);
        due("the law does not let it", places(f, 1, 0, 9), 0);
        due("the law does", places(f, 1, 4, 9), 1);
        due("a group", places(f, 1, 8, 9), 0);
        due("broken", places(f, 1, 12, 9), 0);
        due("an open hole", places(f, 1, 128, 9), 0);
        due("a shut one", places(f, 1, 132, 9), 1);
        due("of all of them", places(f, 1, 0, 9, 4, 1, 8, 9, 12, 9, 128, 9, 132, 1), 34);
        law(f, "c1(k>0)");
        due("another kind", places(f, 1, 4, 9), 0);
        about("as all is now");
        HoleFair n = with("c1(n=0&h=0)");
        due("a hole of the set is no gap for another", places(n, 1, 0, 1, 2, 1), 3);
        due("twelve may be there", places(twelveHoles(), -1, 255, 8), 8);
        about("(the empty set is FINE)");
        due("none can be", places(new HoleFair(), -1, 0, 9, 2, 9), 0);
        due("none can be", places(new HoleFair(), 1, 0, 9, 2, 9), 0);
    }

    private static HoleFair twelveHoles() {
        HoleFair f = with(FREE);
        for (int i = 0; i < 12; i++) {
            f.cut(i % 4 * 4, i / 4 * 4, 0, 0, 0, 0);
        }
        due("twelve", f.count(1), 12);
        return f;
    }

    private static void placesNeighbours() {
        about("none is a NEIGHBOUR of another one of it or of an OPEN HOLE");
        for (int i = 0; i < 25; i++) {
            int x = 5 + i % 5;
            int y = 5 + i / 5;
            boolean beside = Math.abs(x - 7) <= 1 && Math.abs(y - 7) <= 1;
            if (i == 12) {
                continue;
            }
            HoleFair f = with(FREE);
            due("of another, " + x + ", " + y, places(f, -1, 119, 3, 16 * y + x, 2), beside ? 3 : 5);
            due("of another, " + x + ", " + y, places(f, -1, 119, 2, 16 * y + x, 3), beside ? 3 : 5);
            f.cut(7, 7, 0, 0, 0, 0);
            due("of a hole, " + x + ", " + y, places(f, -1, 16 * y + x, 3), beside ? 0 : 3);
            f.shut(0);
            due("of a shut one, " + x + ", " + y, places(f, -1, 16 * y + x, 3), 3);
        }
        HoleFair f = with(FREE);
        due("15 and 16 are none", places(f, 1, 15, 1, 16, 1), 3);
        due("0 and 31 are none", places(f, 1, 0, 1, 31, 1), 3);
        f.group(7, 7, 99);
        law(f, "c1(1=1)");
        f.settle();
        due("of a broken one it may be", places(f, 1, 120, 1), 1);
    }

    private static void placesRows() {
        about("no ROW comes of them with one another and the OPEN HOLES that there are");
        int[][] orders = {{0, 3, 6}, {0, 6, 3}, {3, 0, 6}, {3, 6, 0}, {6, 0, 3}, {6, 3, 0}};
        for (int[] o : orders) {
            HoleFair f = with(FREE);
            due("three of them", places(f, -1, o[0], 1, o[1], 1, o[2], 1), 2);
            due("three of them, the least", places(f, 1, o[0], 1, o[1], 1, o[2], 1), 3);
            due("by steps of 4", places(f, -1, o[0] / 3 * 4, 1, o[1] / 3 * 4, 1, o[2] / 3 * 4, 1), 3);
            f.cut(o[0], 0, 0, 0, 0, 0);
            due("two of them with a hole", places(f, -1, o[1], 1, o[2], 1), 1);
            due("two of them with a hole, the least", places(f, 1, o[1], 1, o[2], 1), 1);
            f.cut(o[1], 0, 0, 0, 0, 0);
            due("one of them with two holes", places(f, -1, o[2], 1), 0);
            f.shut(0);
            due("one is shut", places(f, -1, o[2], 1), 1);
        }
        HoleFair f = with(FREE);
        due("two rows at once", places(f, -1, 0, 1, 3, 9, 6, 1, 51, 1, 99, 1), 11);
        due("every two, but no three", places(f, 1, 0, 5, 3, 5, 6, 5, 48, 5), 11);
    }

    private static void placesBest() {
        about("of most worth; of like ones of fewest SQUARES; of like ones the least (bits by their order)");
        HoleFair f = with(FREE);
        due("most worth", places(f, 1, 0, 5, 1, 6, 2, 2), 5);
        due("of like ones of fewest", places(f, 1, 0, 3, 1, 6, 2, 3), 2);
        due("one less: the other", places(f, 1, 0, 3, 1, 5, 2, 3), 5);
        due("of like ones the least", places(f, 1, 0, 5, 1, 5), 1);
        due("by their order, not by their number", places(f, 1, 1, 5, 0, 5), 1);
        due("worth 0 is not taken", places(f, 1, 0, 0, 4, 0, 8, 1), 4);
        due("all of worth 0", places(f, 1, 0, 0, 4, 0, 8, 0), 0);
        due("the least of twos", places(f, 1, 0, 5, 1, 5, 9, 5, 10, 5), 5);
        due("0110 is more than 0101", places(f, 1, 10, 5, 0, 5, 9, 5, 1, 5), 3);
    }

    private static HoleFair closingLake() {
        HoleFair f = twelveHoles();
        f.shut(11);
        law(f, "b50-m(1=1)");
        return f;
    }

    private static void closingNumbers() {
        about("promise 17, closing: -3: no such ones (1 to 8 HOLES), no such place");
        HoleFair f = closingLake();
        due("no hole", f.closing(0, 0, -1), -3);
        due("one", f.closing(1, 0, -1), 0);
        due("eight", f.closing(255, 0, -1), 0);
        due("other eight", f.closing(255 << 3, 0, -1), 0);
        due("nine", f.closing(511, 0, -1), -3);
        due("nine, one of them shut", f.closing(0xff8, 0, -1), -3);
        due("all", f.closing(4095, 0, -1), -3);
        due("hole 12", f.closing(4096, 0, -1), -3);
        due("hole 12 and another", f.closing(4097, 0, -1), -3);
        due("hole 30", f.closing(1 << 30, 0, -1), -3);
        due("hole 31", f.closing(LOW, 0, -1), -3);
        due("below 0", f.closing(-1, 0, -1), -3);
        due("far above", f.closing(HIGH, 0, -1), -3);
        due("the last one", f.closing(1 << 10, 0, 0), 10);
        HoleFair two = with(FREE);
        two.cut(0, 0, 0, 0, 0, 0);
        two.cut(4, 0, 0, 0, 0, 0);
        due("both", two.closing(3, 0, -1), 0);
        due("no third yet", two.closing(4, 0, -1), -3);
        due("with a third", two.closing(7, 0, -1), -3);
        due("none in a new lake", new HoleFair().closing(1, 0, -1), -3);
        for (int load : new int[] {LOW, -1, 10000, HIGH}) {
            due("load " + load, f.closing(1, load, -1), -3);
            due("load " + load, f.closing(1, load, 0), -3);
        }
        due("load 0", f.closing(1, 0, -1), 0);
        due("load 9999", f.closing(1, 9999, -1), 10);
        for (int n = 1; n <= 8; n++) {
            int holes = (1 << n) - 1;
            due("the last place of " + n, f.closing(holes, 0, n - 1), n - 1);
            for (int what : new int[] {n, n + 1, 500, HIGH, -2, -3, LOW}) {
                due("no place " + what + " of " + n, f.closing(holes, 0, what), -3);
            }
        }
    }

    private static void closingOpen() {
        about("promise 17, closing: -2: one is not OPEN");
        HoleFair f = closingLake();
        due("it alone", f.closing(1 << 11, 0, -1), -2);
        due("with others", f.closing(1 << 11 | 1, 0, -1), -2);
        due("with seven others", f.closing(1 << 11 | 127, 0, -1), -2);
        due("a place", f.closing(1 << 11 | 1, 0, 0), -2);
        due("without it", f.closing(1, 0, -1), 0);
        f.shut(0);
        due("another one", f.closing(1, 0, -1), -2);
    }

    /** A HOLE that stays SOUND for so many MINUTES with a load of 1. */
    private static HoleFair soundFor(int minutes, int kind, int heat) {
        HoleFair f = with("c1(1=1);b" + minutes + "-m(1=1)");
        f.cut(7, 7, kind, heat, 0, 0);
        due("sound", f.sound(0, 1), minutes);
        return f;
    }

    private static void closingTimes() {
        about("CLOSING: each takes 1 and its KIND MINUTES; not shut when its SOUND time is over");
        for (int kind = 0; kind <= 4; kind++) {
            due("kind " + kind + ", just in time", soundFor(kind + 1, kind, 0).closing(1, 1, -1), 0);
            due("kind " + kind + ", a minute late", soundFor(kind, kind, 0).closing(1, 1, -1), 10);
        }
        HoleFair f = with("c1(1=1);b9(x>9);b4-m(1=1)");
        f.cut(3, 3, 1, 0, 0, 0);
        f.cut(6, 3, 1, 0, 0, 0);
        f.cut(13, 3, 4, 0, 0, 0);
        due("sound", f.sound(0, 1), 4);
        due("two and two are four", f.closing(3, 1, -1), 0);
        due("the third waits", f.closing(7, 1, -1), 0);
        due("the third is last", f.closing(7, 1, 2), 2);
        f.cut(6, 10, 0, 0, 0, 0);
        due("one is late", f.closing(11, 1, -1), 10);
        due("from now on", f.minutes(1), 0);
        due("two and two are more than three", f.closing(3, 1, -1), 10);
    }

    private static void closingCosts() {
        about("costs 10 and its HEAT times 5");
        for (int heat = 0; heat <= 9; heat++) {
            due("heat " + heat, soundFor(0, 0, heat).closing(1, 1, -1), 10 + 5 * heat);
        }
        HoleFair f = with(FREE);
        for (int i = 0; i < 8; i++) {
            f.cut(i % 4 * 4, i / 4 * 4, 4, 9, 0, 0);
        }
        due("eight, all late", f.closing(255, 9999, -1), 8 * 55);
    }

    private static void closingOrder() {
        about("the ORDER of least cost; of like ones the least row");
        HoleFair f = with(FREE);
        for (int i = 0; i < 8; i++) {
            f.cut(i % 4 * 4, i / 4 * 4, 4 - i % 5, i, 0, 0);
        }
        for (int place = 0; place < 8; place++) {
            due("none is late: by numbers", f.closing(255, 0, place), place);
            due("all are late: by numbers", f.closing(255, 9999, place), place);
        }
        f = with("c1(1=1);b3-m(1=1)");
        f.cut(3, 3, 2, 0, 0, 0);
        f.cut(7, 3, 2, 1, 0, 0);
        f.cut(11, 3, 2, 0, 0, 0);
        due("but one is late", f.closing(7, 1, -1), 20);
        due("the dearest first", f.closing(7, 1, 0), 1);
        due("then the least", f.closing(7, 1, 1), 0);
        due("then the other", f.closing(7, 1, 2), 2);
        due("of like ones the least", f.closing(5, 1, 0), 0);
    }

    private static void rescueNumbers() {
        about("promise 18, rescue: -3: no such ones");
        HoleFair f = with("b50(1=1)");
        for (int what : new int[] {-1, 500, 0}) {
            for (int square : new int[] {LOW, -1, 256, HIGH}) {
                due("from " + square, f.rescue(square, 0, 1, what), -3);
                due("to " + square, f.rescue(0, square, 1, what), -3);
            }
            for (int weight : new int[] {LOW, -1, 0, 10000, HIGH}) {
                due("weight " + weight, f.rescue(0, 0, weight, what), -3);
            }
        }
        due("from the first to the last", f.rescue(0, 255, 1, 500), 30);
        due("from the last to the first", f.rescue(255, 0, 1, 500), 30);
        due("weight 1", f.rescue(0, 1, 1, -1), 0);
        law(f, "b9999(1=1)");
        due("weight 9999", f.rescue(0, 1, 9999, -1), 0);
        law(f, "b9899(1=1)");
        due("weight 9999 by planks", f.rescue(0, 1, 9999, -1), 2);
        law(f, "b9898(1=1)");
        due("not by planks", f.rescue(0, 1, 9999, -1), -2);
        due("no such ones ahead of no way", f.rescue(0, 1, 10000, -1), -3);
    }

    private static void rescuePlaces() {
        about("promise 18, rescue: the SQUARE at place what (0: the first); no such place");
        HoleFair f = with("b50(1=1)");
        due("the first", f.rescue(3, 7, 50, 0), 3);
        due("the last", f.rescue(3, 7, 50, 4), 7);
        due("one more", f.rescue(3, 7, 50, 5), -3);
        due("itself", f.rescue(3, 3, 50, 0), 3);
        due("itself, no steps", f.rescue(3, 3, 50, 500), 0);
        due("itself, no more", f.rescue(3, 3, 50, 1), -3);
        due("the farthest", f.rescue(0, 255, 50, 30), 255);
        due("one more", f.rescue(0, 255, 50, 31), -3);
        for (int what : new int[] {LOW, -3, -2, 256, 499, 501, HIGH}) {
            due("no place " + what, f.rescue(3, 7, 50, what), -3);
            due("no place " + what + ", no way", f.rescue(3, 7, 151, what), -3);
        }
        for (int what : new int[] {-1, 0, 1, 255, 500}) {
            due("no way, " + what, f.rescue(3, 7, 151, what), -2);
        }
    }

    private static void rescuePlanks() {
        about("each that does not BEAR it (the first and the last, too) takes a PLANK: 100 more");
        HoleFair f = with("bi(1=1)");
        due("just bears it", f.rescue(0, 2, 50, -1), 0);
        due("one more", f.rescue(0, 2, 51, -1), 3);
        due("a hundred more", f.rescue(0, 2, 150, -1), 3);
        due("one more than that", f.rescue(0, 2, 151, -1), -2);
        due("the same square, just", f.rescue(0, 0, 50, -1), 0);
        due("the same square by a plank", f.rescue(0, 0, 51, -1), 1);
        due("the same square, not", f.rescue(0, 0, 151, -1), -2);
        f.ice(0, 0, 49);
        due("the first", f.rescue(0, 2, 50, -1), 1);
        due("the last", f.rescue(2, 0, 50, -1), 1);
        due("neither", f.rescue(1, 3, 50, -1), 0);
        due("the first can't", f.rescue(0, 2, 150, -1), -2);
        due("the last can't", f.rescue(2, 0, 150, -1), -2);
        due("round it", f.rescue(1, 16, 150, -1), 3);
        due("no law: each by a plank", new HoleFair().rescue(0, 255, 100, -1), 31);
        due("no law: not by one", new HoleFair().rescue(0, 255, 101, -1), -2);
    }

    private static void rescueSquares() {
        about("over whole SQUARES without OPEN HOLES, by sides");
        HoleFair f = with(FREE);
        due("not by corners", f.rescue(0, 17, 1, 500), 2);
        due("not round the side", f.rescue(15, 16, 1, 500), 16);
        f.cut(1, 0, 0, 0, 0, 0);
        due("round a hole", f.rescue(0, 2, 1, 500), 4);
        due("from a hole", f.rescue(1, 2, 1, -1), -2);
        due("to a hole", f.rescue(2, 1, 1, -1), -2);
        due("from a hole to itself", f.rescue(1, 1, 1, -1), -2);
        f.group(0, 1, 1);
        due("a group is in nobody's way", f.rescue(0, 16, 99, -1), 0);
        law(f, "b0(y=1);b99(1=1);c1(1=1)");
        f.settle();
        due("shut in by a hole and a broken one", f.rescue(0, 2, 1, -1), -2);
        due("but not from itself", f.rescue(0, 0, 1, 500), 0);
        due("from a broken one", f.rescue(16, 16, 1, -1), -2);
        due("to a broken one", f.rescue(32, 16, 1, -1), -2);
        f.shut(0);
        due("a shut one can be gone over", f.rescue(0, 2, 1, 500), 2);
        f.cut(1, 0, 0, 0, 0, 0);
        f.ice(0, 1, 9);
        law(f, "b99(1=1)");
        due("mended", f.rescue(0, 2, 1, 500), 4);
    }

    private static void rescueOrder() {
        about("fewest PLANKS, then fewest steps; of like ones the least row of SQUARES");
        HoleFair f = with("bi(1=1)");
        f.ice(2, 0, 0);
        due("no plank by a longer way", f.rescue(0, 4, 50, -1), 0);
        due("two steps more", f.rescue(0, 4, 50, 500), 6);
        int[] way = {0, 1, 17, 18, 19, 3, 4};
        for (int i = 0; i < way.length; i++) {
            due("the least row, place " + i, f.rescue(0, 4, 50, i), way[i]);
        }
        f.ice(0, 0, 0);
        f.ice(4, 0, 0);
        due("those of its ends it must take", f.rescue(0, 4, 50, -1), 2);
        due("and no more", f.rescue(0, 4, 50, 500), 6);
        f = with("bi(1=1)");
        f.ice(0, 0, 0);
        f.ice(0, 1, 0);
        due("not over another weak one", f.rescue(0, 3, 50, -1), 1);
        due("not over another weak one", f.rescue(0, 3, 50, 500), 3);
        due("not over another weak one", f.rescue(3, 0, 50, -1), 1);
        due("from a weak one to a weak one", f.rescue(0, 16, 50, 500), 1);
        int[] planks = {0, 1, 2, 3, 19, 35};
        for (int i = 0; i < planks.length; i++) {
            due("a plank at its start, place " + i, f.rescue(0, 35, 50, i), planks[i]);
            due("planks on all, place " + i, f.rescue(0, 35, 100, i), planks[i]);
        }
        due("planks on all", f.rescue(0, 35, 100, -1), 6);
        f = with("bi(1=1)");
        int[] least = {34, 18, 19, 20, 36};
        due("steps", f.rescue(34, 36, 50, 500), 2);
        f.ice(3, 2, 0);
        for (int i = 0; i < least.length; i++) {
            due("up is less than down, place " + i, f.rescue(34, 36, 50, i), least[i]);
        }
        f.ice(3, 1, 0);
        due("down then", f.rescue(34, 36, 50, 1), 50);
    }

    private static int began(HoleFair f, int what, int... squares) {
        feed(f, squares);
        return f.began(squares.length, what);
    }

    private static int[] upTo(int n) {
        int[] squares = new int[n];
        for (int i = 0; i < n; i++) {
            squares[i] = 5 * i % 256;
        }
        return squares;
    }

    private static void beganNumbers() {
        about("promise 19, began: 1 to 40; -3: no such ones, it has not so many (the tape stays)");
        HoleFair f = with("b9(1=1)");
        due("no tape", f.began(1, 0), -3);
        feed(f, upTo(60));
        for (int n : new int[] {LOW, -1, 0, 41, 42, 60, 61, HIGH}) {
            due("n " + n, f.began(n, 0), -3);
            due("n " + n, f.began(n, 1), -3);
            due("the tape stays", f.count(4), 60);
        }
        for (int what : new int[] {LOW, -2, -1, 2, 3, HIGH}) {
            due("what " + what, f.began(1, what), -3);
            due("the tape stays", f.count(4), 60);
        }
        due("n 40", f.began(40, 0), 0);
        due("empty then, all of it", f.count(4), 0);
        feed(f, upTo(20));
        due("20 are not 21", f.began(21, 0), -3);
        due("the tape stays", f.count(4), 20);
        due("20 are 20", f.began(20, 1), -1);
        feed(f, upTo(40));
        due("n 1", f.began(1, 0), 1);
        due("empty then, all of it", f.count(4), 0);
    }

    private static void beganTwice() {
        about("promise 19, began: -2: a SQUARE twice, or BROKEN, or an OPEN HOLE now");
        for (int at = 1; at < 40; at++) {
            HoleFair f = with("b9(1=1)");
            int[] squares = upTo(40);
            squares[at] = squares[(at * 7 + 3) % at];
            due("twice, at " + at, began(f, 0, squares), -2);
            due("empty then", f.count(4), 0);
            feed(f, squares);
            due("not within the first n", f.began(at, 0), at == 1 ? 1 : 0);
        }
        HoleFair f = with("b9(1=1);c1(1=1)");
        f.cut(3, 0, 0, 0, 0, 0);
        f.cut(7, 0, 0, 0, 0, 0);
        f.shut(1);
        f.group(11, 0, 10);
        f.settle();
        due("an open hole", began(f, 0, 3), -2);
        due("empty then", f.count(4), 0);
        due("an open hole behind others", began(f, 1, 0, 1, 3), -2);
        due("a shut one", began(f, 0, 7), 1);
        due("broken", began(f, 0, 11), -2);
        due("empty then", f.count(4), 0);
        due("broken behind others", began(f, 1, 0, 1, 11), -2);
        f.ice(11, 0, 9);
        due("whole again", began(f, 1, 11), 11);
        due("the first square", began(f, 1, 0), 0);
        due("the last square", began(f, 1, 255), 255);
    }

    private static void beganSquares() {
        about("BEGAN: just the told SQUARES were BROKEN more than now (it with them): how many, the lowest");
        HoleFair f = with("b30-n*10(1=1)");
        f.group(7, 7, 21);
        f.group(8, 7, 21);
        f.group(9, 7, 20);
        due("either of the two", began(f, 0, 119, 120), 2);
        due("the lowest", began(f, 1, 120, 119), 119);
        due("one less", began(f, 0, 119), 0);
        due("one less, none", began(f, 1, 119), -1);
        due("one more", began(f, 0, 119, 120, 121), 1);
        due("one more, only it", began(f, 1, 119, 120, 121), 121);
        due("one beside", began(f, 1, 119, 102, 120), 102);
        due("one far away", began(f, 0, 119, 120, 0), 0);
        due("as many, but not the same ones", began(f, 0, 0, 119), 0);
        due("as many, but not the same ones", began(f, 0, 119, 0), 0);
        due("as many, but not the same ones", began(f, 0, 120, 121), 0);
        due("far away, alone", began(f, 0, 0), 1);
        due("far away, alone", began(f, 1, 0), 0);
        about("BEGAN: (GROUPS on it drowned)");
        f = with("b30-n*10(1=1)");
        f.group(7, 7, 99);
        due("what is over breaks by itself", began(f, 0, 119), 1);
        due("with any other", began(f, 1, 3, 119), 3);
        due("the other alone does not do", began(f, 0, 3), 0);
        about("BEGAN: more than now");
        f.settle();
        f.group(8, 7, 21);
        due("it would break by itself now", began(f, 0, 120), 1);
        f.ice(7, 7, 50);
        due("what was broken is not told", began(f, 0, 119, 120), 1);
        int[] eight = new int[9];
        f = with("b20-n*10(1=1)");
        for (int i = 0; i < 8; i++) {
            f.group(3 + i, 7, 11);
            eight[i] = 115 + i;
        }
        eight[8] = 114;
        due("all eight and one beside them", began(f, 0, eight), 1);
        due("it", began(f, 1, eight), 114);
        due("nothing is broken", f.count(6), 0);
        due("nobody is drowned", f.count(7), 0);
    }

    private static int fee(HoleFair f, int load, int what, int... bytes) {
        feed(f, bytes);
        return f.fee(bytes.length / 2, load, what);
    }

    private static void feeNumbers() {
        about("promise 20, fee: n 1 to 10; -3: no such ones, it has not so many (the tape stays)");
        HoleFair f = with("b50(1=1)");
        due("no tape", f.fee(1, 0, -1), -3);
        feed(f, pairs(10, 5));
        f.feed(0, 0, 0, 0, 0);
        for (int n : new int[] {LOW, LOW + 1, -1, 0, 11, 12, 20, HIGH}) {
            due("n " + n, f.fee(n, 51, -1), -3);
            due("the tape stays", f.count(4), 40);
        }
        for (int load : new int[] {LOW, -1, 10000, HIGH}) {
            due("load " + load, f.fee(10, load, -1), -3);
            due("the tape stays", f.count(4), 40);
        }
        for (int what : new int[] {LOW, -3, -2, 10, 11, 500, HIGH}) {
            due("what " + what, f.fee(10, 51, what), -3);
            due("the tape stays", f.count(4), 40);
        }
        due("what 3 of 3", f.fee(3, 51, 3), -3);
        due("what 1 of 1", f.fee(1, 51, 1), -3);
        due("the tape stays", f.count(4), 40);
        due("n 10", f.fee(10, 51, -1), 50);
        due("empty then, all of it", f.count(4), 0);
        feed(f, pairs(10, 5));
        due("the last of ten", f.fee(10, 51, 9), 5);
        feed(f, pairs(10, 5));
        due("n 1", f.fee(1, 51, 0), 5);
        due("empty then, all of it", f.count(4), 0);
        due("load 0", fee(f, 0, -1, pairs(10, 5)), 0);
        due("load 9999", fee(f, 9999, -1, pairs(10, 5)), 50);
        law(f, "b9999(1=1)");
        due("load 9999, it bears that", fee(f, 9999, -1, pairs(10, 5)), 0);
        law(f, "b0(1=1)");
        due("load 0, each bears that", fee(f, 0, -1, pairs(10, 5)), 0);
        due("load 1, none does", fee(f, 1, -1, pairs(10, 255)), 2550);
    }

    private static void feeTwice() {
        about("promise 20, fee: -2: a SQUARE twice, or BROKEN, or an OPEN HOLE now");
        for (int first = 1; first < 10; first++) {
            for (int second = 0; second < first; second++) {
                int[] bytes = pairs(10, 1);
                bytes[2 * first] = bytes[2 * second];
                HoleFair f = with("b50(1=1)");
                due("twice of ten", fee(f, 51, -1, bytes), -2);
                due("empty then", f.count(4), 0);
                feed(f, bytes);
                due("not within the first n", f.fee(first, 51, -1), first);
            }
        }
        HoleFair f = with("b9(1=1);c1(1=1)");
        f.cut(3, 0, 0, 0, 0, 0);
        f.cut(7, 0, 0, 0, 0, 0);
        f.shut(1);
        f.group(11, 0, 10);
        f.settle();
        due("an open hole", fee(f, 10, -1, 3, 1), -2);
        due("empty then", f.count(4), 0);
        due("an open hole behind others", fee(f, 10, 0, 0, 1, 3, 1), -2);
        due("a shut one", fee(f, 10, -1, 7, 1), 1);
        due("broken", fee(f, 10, -1, 11, 1), -2);
        due("empty then", f.count(4), 0);
        due("broken behind others", fee(f, 10, 0, 0, 1, 11, 1), -2);
        f.ice(11, 0, 9);
        due("whole again", fee(f, 10, -1, 11, 1), 1);
        f.group(11, 0, 1);
        due("a group may stand there", fee(f, 10, -1, 11, 1), 1);
        due("the first and the last square", fee(f, 10, -1, 0, 1, 255, 2), 3);
    }

    private static void feeBest() {
        about("the least FEE by which none is worth more than the best of those that do (if none does: its worth)");
        HoleFair f = with("bi(1=1)");
        f.ice(1, 0, 51);
        due("worth as much", fee(f, 51, 0, 0, 7, 1, 7), 0);
        due("worth one more", fee(f, 51, 0, 0, 8, 1, 7), 1);
        due("worth one less", fee(f, 51, 0, 0, 6, 1, 7), 0);
        due("255 against 0", fee(f, 51, 0, 0, 255, 1, 0), 255);
        due("0 against 255", fee(f, 51, 0, 0, 0, 1, 255), 0);
        due("those that do pay nothing", fee(f, 51, 1, 0, 8, 1, 7), 0);
        due("none does: its worth", fee(f, 52, 0, 0, 8, 1, 7), 8);
        due("none does: its worth", fee(f, 52, 1, 0, 8, 1, 7), 7);
        due("both do", fee(f, 50, -1, 0, 8, 1, 7), 0);
        f.ice(2, 0, 99);
        due("the best of two that do", fee(f, 51, 0, 0, 9, 1, 3, 2, 5), 4);
        due("in another order", fee(f, 51, 2, 1, 5, 2, 3, 0, 9), 4);
        due("all together", fee(f, 51, -1, 0, 9, 3, 6, 1, 3, 2, 5, 4, 5), 5);
        f.group(0, 0, 50);
        due("what it carries does not matter", fee(f, 50, -1, 0, 9, 1, 5), 0);
    }
}
