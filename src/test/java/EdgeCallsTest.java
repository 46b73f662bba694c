/** Promises 1 to 15 and 21 to 27: of each number that a call takes the last that is allowed and the first that is not. */
public final class EdgeCallsTest extends Bench {
    private static final String FREE = "c1(1=1);b99(1=1)";
    private static final int LOW = Integer.MIN_VALUE;
    private static final int HIGH = Integer.MAX_VALUE;

    /** A call on an object of its own, with one number to try. */
    interface Ask {
        long of(int value);
    }

    public static void main(String[] args) {
        newObject();
        ice();
        iceWholeThen();
        tape();
        lawNumbers();
        cut();
        cutOrder();
        shut();
        group();
        settle();
        minutes();
        run();
        square();
        holeIs();
        groupIs();
        draws();
        sound();
        soundTimes();
        soundNeighbours();
        row();
        seed();
        draw();
        keep();
        undo();
        check();
        checkNumbers();
        count();
        end();
    }

    /** Beyond least and most the call is refused, at them it is not. */
    private static void range(String what, int least, int most, long refused, Ask ask) {
        due(what + ", far below", ask.of(LOW), refused);
        due(what + ", one below", ask.of(least - 1), refused);
        due(what + ", the least", ask.of(least) != refused, true);
        due(what + ", the most", ask.of(most) != refused, true);
        due(what + ", one above", ask.of(most + 1), refused);
        due(what + ", far above", ask.of(HIGH), refused);
    }

    private static void newObject() {
        about("promise 1: All THICK 50, whole; no HOLES, GROUPS, LAW; THE SEED 1");
        int[] first = {50, 0, 0, 0, 0, 0};
        for (int what = 0; what < 6; what++) {
            HoleFair f = new HoleFair();
            for (int s = 0; s < 256; s++) {
                due("square " + s + ", " + what, f.square(s % 16, s / 16, what), first[what]);
            }
        }
        HoleFair f = new HoleFair();
        int[] counts = {0, 0, 0, 0, 0, 1, 0, 0};
        for (int what = 0; what < 8; what++) {
            due("count " + what, f.count(what), counts[what]);
        }
        due("no hole", f.holeIs(0, 0), -1);
        due("no group", f.groupIs(0, 0), -1);
        due("nothing kept", f.undo(), false);
        due("no tape", f.law(1), -1);
        due("NONE", HoleFair.NONE, -1);
        HoleFair other = new HoleFair();
        f.ice(0, 0, 9);
        f.seed(7);
        due("objects are apart", other.square(0, 0, 0), 50);
        due("objects are apart", other.count(5), 1);
    }

    private static void ice() {
        about("promise 2, ice: true; false: no such ones");
        range("x", 0, 15, 0, v -> one(new HoleFair().ice(v, 3, 9)));
        range("y", 0, 15, 0, v -> one(new HoleFair().ice(3, v, 9)));
        range("thick", 0, 99, 0, v -> one(new HoleFair().ice(3, 3, v)));
        int[][] ends = {{0, 0, 0}, {15, 0, 99}, {0, 15, 1}, {15, 15, 98}};
        for (int[] e : ends) {
            HoleFair f = new HoleFair();
            f.ice(e[0], e[1], e[2]);
            for (int s = 0; s < 256; s++) {
                boolean it = s == 16 * e[1] + e[0];
                due("just that one", f.square(s % 16, s / 16, 0), it ? e[2] : 50);
            }
        }
    }

    private static void iceWholeThen() {
        about("promise 2, ice: THICK of a SQUARE (whole then)");
        HoleFair f = with("c1(1=1)");
        f.group(0, 0, 1);
        f.group(15, 15, 1);
        f.settle();
        due("two are broken", f.count(6), 2);
        f.ice(15, 15, 0);
        due("whole then", f.square(15, 15, 1), 0);
        due("one is broken", f.count(6), 1);
        due("its group stays drowned", f.groupIs(1, 0), -2);
        due("both stay drowned", f.count(7), 2);
        f.ice(0, 0, 99);
        due("none is broken", f.count(6), 0);
        f.cut(4, 4, 0, 5, 0, 0);
        f.ice(4, 4, 33);
        due("an open hole stays one", f.square(4, 4, 1), 2);
        due("on ice of that thickness", f.square(4, 4, 0), 33);
        f.group(7, 7, 5);
        f.ice(7, 7, 12);
        due("a group stays on it", f.groupIs(2, 0), 119);
    }

    private static void tape() {
        about("promise 3, feed: how many it has; NONE if that would be more than 220");
        HoleFair f = new HoleFair();
        due("none at first", f.count(4), 0);
        for (int i = 1; i <= 11; i++) {
            due("feed " + i, f.feed(LOW, HIGH, -1, 0, 1), 20 * i);
            due("count", f.count(4), 20 * i);
        }
        due("240 would be more", f.feed(0, 0, 0, 0, 0), -1);
        due("and again", f.feed(0, 0, 0, 0, 0), -1);
        due("220 stay", f.count(4), 220);
        due("a number of them", f.check(0, 1), 0);
        due("empty then", f.count(4), 0);
        due("from the first on", f.feed(50, 50, 50, 50, 50), 20);
        due("these", f.check(0, 5), -1);
        about("promise 3, feed: Twenty bytes come behind the tape, the highest of each int first");
        int[] row = {0x01020304, 0x7f8081ff, -1, 0, LOW};
        f.feed(row[0], row[1], row[2], row[3], row[4]);
        f.feed(0x05060708, 0, 0, 0, 0);
        int[] bytes = {1, 2, 3, 4, 127, 128, 129, 255};
        // all of them are whole, and no one alone brings down the others
        due("eight squares, no two alike", f.began(8, 0), 0);
        for (int i = 0; i < 8; i++) {
            f.feed(i < 4 ? row[0] << 8 * i : row[1] << 8 * (i - 4), 0, 0, 0, 0);
            due("square " + bytes[i], f.began(1, 1), bytes[i]);
        }
        for (int i = 0; i < 3; i++) {
            f.feed(10 * i, 10 * i + 1, 10 * i + 2, 10 * i + 3, 10 * i + 4);
        }
        for (int x = 0; x < 15; x++) {
            f.ice(x, 5, x / 5 * 10 + x % 5);
        }
        due("behind one another", f.check(5, 15), -1);
    }

    private static void lawNumbers() {
        about("promise 4, law: NONE: no such n, it has not so many (the tape stays)");
        for (int size = 1; size <= 11; size++) {
            HoleFair f = with("b5(1=1)");
            for (int i = 0; i < size; i++) {
                f.feed(0, 0, 0, 0, 0);
            }
            int most = Math.min(200, 20 * size);
            due("one more than it has, or than 200", f.law(most + 1), -1);
            due("the tape stays", f.count(4), 20 * size);
            due("none", f.law(0), -1);
            due("the tape stays", f.count(4), 20 * size);
            due("all it has, or 200", f.law(most), -1000);
            due("empty then", f.count(4), 0);
            due("the text before stays", f.square(0, 0, 2), 5);
        }
        range("n", 1, 200, -1, v -> {
            HoleFair f = new HoleFair();
            for (int i = 0; i < 11; i++) {
                f.feed(0, 0, 0, 0, 0);
            }
            return f.law(v);
        });
    }

    private static void cut() {
        about("promise 5, cut: NONE: no such ones");
        range("x", 0, 15, -1, v -> with(FREE).cut(v, 3, 0, 0, 0, 0));
        range("y", 0, 15, -1, v -> with(FREE).cut(3, v, 0, 0, 0, 0));
        range("kind", 0, 4, -1, v -> with(FREE).cut(3, 3, v, 0, 0, 0));
        range("heat", 0, 9, -1, v -> with(FREE).cut(3, 3, 0, v, 0, 0));
        range("smell", 0, 9, -1, v -> with(FREE).cut(3, 3, 0, 0, v, 0));
        range("price", 0, 9, -1, v -> with(FREE).cut(3, 3, 0, 0, 0, v));
        HoleFair f = with(FREE);
        due("all the least", f.cut(0, 0, 0, 0, 0, 0), 0);
        due("all the most", f.cut(15, 15, 4, 9, 9, 9), 1);
        int[] least = {0, 1, 0, 0, 0, 0};
        int[] most = {255, 1, 4, 9, 9, 9};
        for (int what = 0; what < 6; what++) {
            due("all the least", f.holeIs(0, what), least[what]);
            due("all the most", f.holeIs(1, what), most[what]);
        }
    }

    private static void cutOrder() {
        about("promise 5, cut: the number of the HOLE; -2: THE LAW does not let it; -3: a ROW; NONE");
        HoleFair f = new HoleFair();
        due("no law lets nothing", f.cut(0, 0, 0, 0, 0, 0), -2);
        due("no such ones ahead of the law", f.cut(0, 0, 5, 0, 0, 0), -1);
        f.group(0, 0, 1);
        due("it can't be there ahead of the law", f.cut(0, 0, 0, 0, 0, 0), -1);
        f = with(FREE);
        for (int i = 0; i < 11; i++) {
            f.cut(i % 4 * 4, i / 4 * 4, 0, 0, 0, 0);
        }
        due("between two", f.cut(2, 0, 0, 0, 0, 0), -3);
        due("a row takes no number", f.count(1), 11);
        due("the twelfth", f.cut(12, 8, 0, 0, 0, 0), 11);
        due("12 are there ahead of a row", f.cut(2, 0, 0, 0, 0, 0), -1);
        law(f, "c0(1=1)");
        due("12 are there ahead of the law", f.cut(15, 15, 0, 0, 0, 0), -1);
    }

    private static HoleFair twoHoles() {
        HoleFair f = with("c1(1=1);b50(1=1);gs(1=1)");
        f.cut(3, 3, 1, 2, 3, 4);
        f.cut(8, 3, 4, 3, 2, 1);
        f.group(5, 9, 20);
        f.group(15, 15, 51);
        f.group(12, 2, 7);
        return f;
    }

    private static void shut() {
        about("promise 6, shut: true; false: no such one, it is");
        range("hole", 0, 1, 0, v -> one(twoHoles().shut(v)));
        HoleFair f = twoHoles();
        due("one", f.shut(1), true);
        due("it is", f.shut(1), false);
        due("the other is open still", f.holeIs(0, 1), 1);
        due("the other", f.shut(0), true);
        due("no third", f.shut(2), false);
        due("none in a new lake", new HoleFair().shut(0), false);
        f = with(FREE);
        for (int i = 0; i < 12; i++) {
            f.cut(i % 4 * 4, i / 4 * 4, 0, 0, 0, 0);
        }
        due("no number 12", f.shut(12), false);
        due("number 11", f.shut(11), true);
    }

    private static void group() {
        about("promise 7, group: its number; NONE: no such ones, 8 are there");
        range("x", 0, 15, -1, v -> with(FREE).group(v, 3, 1));
        range("y", 0, 15, -1, v -> with(FREE).group(3, v, 1));
        range("weight", 1, 99, -1, v -> with(FREE).group(3, 3, v));
        HoleFair f = twoHoles();
        due("an open hole", f.group(3, 3, 1), -1);
        f.shut(0);
        due("a shut one", f.group(3, 3, 1), 3);
        due("where one stands", f.group(3, 3, 99), 4);
        due("two break", f.settle(), 2);
        due("a broken one", f.group(3, 3, 1), -1);
        f.ice(3, 3, 0);
        due("whole again", f.group(3, 3, 1), 5);
        due("a seventh", f.group(0, 0, 1), 6);
        due("an eighth", f.group(0, 0, 1), 7);
        due("no ninth", f.group(0, 0, 1), -1);
    }

    private static void settle() {
        about("promise 8, settle: how many SQUARES break");
        HoleFair f = new HoleFair();
        due("none in a new lake", f.settle(), 0);
        f.group(0, 0, 1);
        f.group(0, 0, 1);
        f.group(15, 15, 1);
        due("squares, not groups", f.settle(), 2);
        due("no more", f.settle(), 0);
        due("no minute goes by", f.count(0), 0);
        f = with("b50(1=1);t9(1=1)");
        f.settle();
        due("nothing thaws", f.square(0, 0, 0), 50);
    }

    private static void minutes() {
        about("promise 9, minutes: MINUTES (1 to 60): how many drown in them; NONE: no such n");
        range("n", 1, 60, -1, v -> new HoleFair().minutes(v));
        int[] ns = {1, 2, 59, 60};
        for (int n : ns) {
            HoleFair f = with("t1(m=" + (n - 1) + ");b99(1=1)");
            due("none drowns", f.minutes(n), 0);
            due("so many minutes", f.count(0), n);
            due("the last of them thaws", f.square(0, 0, 0), 49);
        }
        HoleFair f = with("b59-m(1=1)");
        for (int i = 0; i < 8; i++) {
            f.group(i, 0, i + 1);
        }
        due("in 59 minutes seven drown", f.minutes(59), 7);
        due("in the next one the last", f.minutes(1), 1);
        due("in the next none", f.minutes(1), 0);
        due("drowned", f.count(7), 8);
    }

    private static HoleFair runs() {
        HoleFair f = with("b59-m(1=1);c1(1=1);gs(1=1)");
        f.cut(15, 0, 0, 0, 5, 0);
        f.group(0, 0, 1);
        f.group(0, 15, 2);
        return f;
    }

    private static void run() {
        about("promise 10, run: RUN (1 to 60), what 0 drown, 1 SQUARES BROKEN, 10 + g; NONE: no such ones");
        for (int what : new int[] {0, 1, 10, 11}) {
            range("n with what " + what, 1, 60, -1, v -> runs().run(v, what));
        }
        HoleFair f = runs();
        int[] wrong = {LOW, -2, -1, 2, 3, 8, 9, 12, 13, 17, 18, HIGH};
        for (int what : wrong) {
            due("no such what " + what, f.run(5, what), -1);
            due("no such what " + what + ", no such n", f.run(0, what), -1);
        }
        due("58 minutes", f.run(58, 0), 0);
        due("59 minutes", f.run(59, 0), 1);
        due("60 minutes", f.run(60, 0), 2);
        due("59 minutes", f.run(59, 1), 1);
        due("60 minutes", f.run(60, 1), 2);
        due("group 0 on its way", f.run(3, 10), 3);
        due("group 0 by the hole", f.run(59, 10), 14);
        due("group 0 drowned", f.run(60, 10), -2);
        due("group 1 alive", f.run(58, 11), 31);
        due("group 1 drowned", f.run(59, 11), -2);
        due("no minute has gone by", f.count(0), 0);
        due("none is drowned", f.count(7), 0);
        due("none has gone", f.groupIs(0, 0), 0);
        due("none is broken", f.count(6), 0);
        for (int g = 2; g < 8; g++) {
            due("no such group yet", f.run(1, 10 + g), -1);
            f.group(5, 5, 1);
            due("now", f.run(1, 10 + g), 86);
        }
        due("no group 8", f.run(1, 18), -1);
        f.minutes(59);
        due("drowned ahead of it counts no more", f.run(1, 0), 1);
        due("a broken one ahead of it does", f.run(1, 1), 2);
        due("none in a new lake", new HoleFair().run(60, 0), 0);
        runsByAll();
    }

    /** A RUN sees all that the lake has now, whatever was asked of another one ahead of it. */
    private static void runsByAll() {
        String[] laws = {"gp(1=1)", "gs(1=1)", "gk(1=1)", "g9-d(d<9)", "gh(1=1)"};
        for (String g : laws) {
            HoleFair f = with("c1(1=1);b99(1=1);" + g);
            f.cut(2, 7, 0, 0, 0, 0);
            f.group(8, 7, 1);
            due("drawn by none, " + g, f.run(1, 10), g.startsWith("g9") ? 119 : 120);
            f.cut(14, 7, 4, 5, 6, 7);
            due("drawn by the other, " + g, f.run(1, 10), g.startsWith("g9") ? 119 : 121);
            f.keep();
            f.shut(1);
            due("shut, " + g, f.run(1, 10), g.startsWith("g9") ? 119 : 120);
            f.undo();
            due("open again, " + g, f.run(1, 10), g.startsWith("g9") ? 119 : 121);
        }
    }

    private static void square() {
        about("promise 11, square: NONE for others");
        for (int w = 0; w < 6; w++) {
            int what = w;
            range("x with what " + what, 0, 15, -1, v -> twoHoles().square(v, 3, what));
            range("y with what " + what, 0, 15, -1, v -> twoHoles().square(3, v, what));
        }
        range("what", 0, 5, -1, v -> twoHoles().square(3, 3, v));
        about("promise 11, square: 1 whole (0), BROKEN (1), an OPEN HOLE (2)");
        HoleFair f = twoHoles();
        due("whole", f.square(4, 3, 1), 0);
        due("whole with a group", f.square(15, 15, 1), 0);
        due("an open hole", f.square(3, 3, 1), 2);
        f.settle();
        due("broken", f.square(15, 15, 1), 1);
        due("its thickness stays", f.square(15, 15, 0), 50);
        due("it carries none", f.square(15, 15, 3), 0);
        due("what it bears", f.square(15, 15, 2), 50);
        due("what an open hole's bears", f.square(3, 3, 2), 50);
        f.shut(0);
        due("a shut hole", f.square(3, 3, 1), 0);
    }

    private static void holeIs() {
        about("promise 12, holeIs: NONE for others");
        for (int w = 0; w < 6; w++) {
            int what = w;
            range("hole with what " + what, 0, 1, -1, v -> twoHoles().holeIs(v, what));
        }
        range("what", 0, 5, -1, v -> twoHoles().holeIs(0, v));
        range("what of a shut one", 0, 5, -1, v -> {
            HoleFair f = twoHoles();
            f.shut(1);
            return f.holeIs(1, v);
        });
        about("promise 12, holeIs: 1 whether it is OPEN (1, 0)");
        HoleFair f = twoHoles();
        due("open", f.holeIs(1, 1), 1);
        f.shut(1);
        int[] shut = {56, 0, 4, 3, 2, 1};
        for (int what = 0; what < 6; what++) {
            due("shut, " + what, f.holeIs(1, what), shut[what]);
        }
    }

    private static void groupIs() {
        about("promise 13, groupIs: NONE for others");
        for (int w = 0; w < 3; w++) {
            int what = w;
            range("group with what " + what, 0, 2, -1, v -> twoHoles().groupIs(v, what));
        }
        range("what", 0, 2, -1, v -> twoHoles().groupIs(0, v));
        about("promise 13, groupIs: its SQUARE (-2: drowned), the HOLE that draws it most (NONE: none, drowned)");
        HoleFair f = twoHoles();
        due("drawn", f.groupIs(1, 2), 0);
        f.settle();
        due("drowned", f.groupIs(1, 0), -2);
        due("its weight", f.groupIs(1, 1), 51);
        due("drawn by none", f.groupIs(1, 2), -1);
        due("another one is not", f.groupIs(2, 2), 0);
        f.shut(0);
        due("by the other hole", f.groupIs(2, 2), 1);
        f.shut(1);
        due("by none", f.groupIs(2, 2), -1);
    }

    private static void draws() {
        about("promise 14, draws: NONE: no such ones, SHUT, drowned");
        range("hole", 0, 1, -1, v -> twoHoles().draws(v, 0));
        range("group", 0, 2, -1, v -> twoHoles().draws(0, v));
        HoleFair f = twoHoles();
        due("by smell", f.draws(0, 1), 3);
        f.settle();
        due("drowned", f.draws(0, 1), -1);
        due("not drowned", f.draws(1, 2), 2);
        f.shut(1);
        due("shut", f.draws(1, 2), -1);
        due("open", f.draws(0, 2), 3);
        law(f, "b9(1=1)");
        due("by 0, not by none", f.draws(0, 2), 0);
    }

    private static void sound() {
        about("promise 15, sound: SOUND for a load (0 to 9999): MINUTES; NONE: no such ones, SHUT");
        range("hole", 0, 1, -1, v -> twoHoles().sound(v, 50));
        range("load", 0, 9999, -1, v -> twoHoles().sound(1, v));
        HoleFair f = twoHoles();
        f.shut(1);
        due("shut", f.sound(1, 50), -1);
        due("open", f.sound(0, 50), 60);
        law(f, "b9999(1=1)");
        due("9999", f.sound(0, 9999), 60);
        law(f, "b9998(1=1)");
        due("one less", f.sound(0, 9999), 0);
        law(f, "b0(1=1)");
        due("0 bears 0", f.sound(0, 0), 60);
        due("0 bears no 1", f.sound(0, 1), 0);
    }

    private static void soundTimes() {
        about("SOUND: how many MINUTES from now on (0: not even now; 60 at most)");
        for (int load = 38; load <= 101; load++) {
            HoleFair f = with("c1(1=1);b100-m(1=1)");
            f.cut(7, 7, 0, 0, 0, 0);
            due("by the minute, load " + load, f.sound(0, load), Math.max(0, Math.min(60, 101 - load)));
            HoleFair g = with("c1(1=1);bi+50(1=1);t1(1=1)");
            g.cut(7, 7, 0, 0, 0, 0);
            due("by thaw, load " + load, g.sound(0, load), load <= 50 ? 60 : Math.max(0, 101 - load));
        }
        HoleFair f = with("c1(1=1);b9(m<5);b0(m<6);b9(1=1)");
        f.cut(7, 7, 0, 0, 0, 0);
        due("till the first minute that it is not", f.sound(0, 9), 5);
        f.minutes(5);
        due("not even now", f.sound(0, 9), 0);
        f.minutes(1);
        due("from now on", f.sound(0, 9), 60);
        about("SOUND: if nothing but THAW (and THE MINUTE) goes on");
        f = with("c1(1=1);b50-n*20(1=1);gs(1=1);t1(m=3)");
        f.cut(7, 7, 0, 0, 9, 0);
        f.group(7, 9, 31);
        due("a group would go there and break it", f.run(1, 0), 1);
        due("but none goes", f.sound(0, 30), 60);
        f = with("c1(1=1);b50(1=1);gs(1=1)");
        f.cut(7, 7, 0, 0, 9, 0);
        f.group(6, 7, 51);
        due("nor does it settle", f.sound(0, 50), 60);
    }

    private static void soundNeighbours() {
        about("SOUND: each of its NEIGHBOURS that is whole without an OPEN HOLE BEARS that load");
        for (int i = 0; i < 25; i++) {
            HoleFair f = with("c1(1=1);bi(1=1)");
            f.cut(7, 7, 0, 0, 0, 0);
            int x = 5 + i % 5;
            int y = 5 + i / 5;
            f.ice(x, y, 49);
            boolean beside = Math.abs(x - 7) <= 1 && Math.abs(y - 7) <= 1 && i != 12;
            due("weak at " + x + ", " + y, f.sound(0, 50), beside ? 0 : 60);
            due("just strong enough", f.sound(0, 49), 60);
            if (beside) {
                f.keep();
                f.cut(x, y, 0, 0, 0, 0);
                due("an open hole need not", f.sound(0, 50), 60);
                f.shut(1);
                due("a shut one must", f.sound(0, 50), 0);
                f.undo();
                f.group(x, y, 50);
                f.settle();
                due("a broken one need not", f.sound(0, 50), 60);
            }
        }
        int[][] corners = {{0, 0}, {15, 0}, {0, 15}, {15, 15}};
        for (int[] c : corners) {
            HoleFair f = with("c1(1=1);bi(1=1)");
            f.cut(c[0], c[1], 0, 0, 0, 0);
            f.ice(15 - c[0], c[1], 9);
            f.ice(c[0], 15 - c[1], 9);
            due("a corner has three", f.sound(0, 50), 60);
            f.ice(c[0] == 0 ? 1 : 14, c[1], 49);
            due("one of them", f.sound(0, 50), 0);
        }
    }

    private static void row() {
        about("promise 21, row: (1, 0); NONE: no such SQUARE");
        range("x", 0, 15, -1, v -> twoHoles().row(v, 3));
        range("y", 0, 15, -1, v -> twoHoles().row(3, v));
        HoleFair f = with("c1(1=1);b9(1=1)");
        f.cut(0, 0, 0, 0, 0, 0);
        due("two are no row", f.row(1, 0), 0);
        f.cut(3, 0, 0, 0, 0, 0);
        due("three are", f.row(6, 0), 1);
        due("whether it could be cut or not", f.row(0, 0), 0);
        law(f, "c0(1=1);b9(1=1)");
        due("whatever the law says", f.row(6, 0), 1);
        f.group(6, 0, 1);
        due("whoever stands there", f.row(6, 0), 1);
        f.group(6, 0, 9);
        f.settle();
        due("broken or not", f.row(6, 0), 1);
    }

    private static void seed() {
        about("promise 22, seed: THE SEED (0 to 65535; X, too): true; false: no such number");
        range("x", 0, 65535, 0, v -> one(new HoleFair().seed(v)));
        HoleFair f = new HoleFair();
        int[] seeds = {0, 1, 65534, 65535};
        for (int s : seeds) {
            f.seed(s);
            due("x, too", f.count(5), s);
        }
        f.seed(65536);
        f.seed(-1);
        due("as it was", f.count(5), 65535);
    }

    private static void draw() {
        about("promise 23, draw: DRAWN (1 to 60): how many drown; NONE: no such n");
        range("n", 1, 60, -1, v -> new HoleFair().draw(v));
        int[] ns = {1, 2, 59, 60};
        for (int n : ns) {
            HoleFair f = with("b" + (n - 1) + "-m(1=1)");
            f.group(7, 7, 1);
            f.group(7, 7, 1);
            due("all drown at the end or ahead of it", f.draw(n), 2);
            due("so many minutes", f.count(0), n);
        }
    }

    private static void keep() {
        about("promise 24, keep: KEPT: how many SQUARES are BROKEN");
        HoleFair f = new HoleFair();
        due("none", f.keep(), 0);
        for (int i = 0; i < 8; i++) {
            f.group(2 * i, i, 1);
            f.group(2 * i, i, 1);
            f.settle();
            due("so many", f.keep(), Math.min(4, i + 1));
        }
        f.ice(0, 0, 1);
        due("one is whole again", f.keep(), 3);
    }

    private static void undo() {
        about("promise 25, undo: true; false: none was KEPT");
        HoleFair f = with("b50(1=1);c1(1=1)");
        due("none was kept", f.undo(), false);
        f.ice(1, 1, 11);
        due("still none", f.undo(), false);
        due("nothing is undone", f.square(1, 1, 0), 11);
        f.keep();
        f.ice(1, 1, 12);
        due("one was", f.undo(), true);
        due("as it was kept", f.square(1, 1, 0), 11);
        f.ice(1, 1, 13);
        due("once more", f.undo(), true);
        due("as it was kept", f.square(1, 1, 0), 11);
        about("UNDONE: as they were KEPT last");
        f.ice(1, 1, 14);
        f.keep();
        f.ice(1, 1, 15);
        f.undo();
        due("the last", f.square(1, 1, 0), 14);
        about("KEPT: SQUARES, HOLES, GROUPS, THE MINUTE, X");
        for (int i = 0; i < 12; i++) {
            f.cut(i % 4 * 4, i / 4 * 4, 0, 1, 0, 0);
        }
        for (int i = 0; i < 8; i++) {
            f.group(i, 15, 9);
        }
        f.seed(65535);
        f.minutes(7);
        law(f, "b0(1=1)");
        f.feed(0, 0, 0, 0, 0);
        f.settle();
        int[] full = {7, 12, 8, 1, 20, 65535, 8, 8};
        for (int what = 0; what < 8; what++) {
            due("ahead of it, count " + what, f.count(what), full[what]);
        }
        f.undo();
        int[] empty = {0, 0, 0, 1, 20, 1, 0, 0};
        for (int what = 0; what < 8; what++) {
            due("count " + what + "; the law and the tape stay", f.count(what), empty[what]);
        }
        due("no gap", f.square(1, 1, 4), 0);
        due("no warmth", f.square(1, 1, 5), 0);
        due("no group", f.groupIs(0, 0), -1);
        due("no hole", f.holeIs(0, 0), -1);
    }

    private static void check() {
        about("promise 26, check: -2: no such ones, it has not so many (the tape stays)");
        range("y", 0, 15, -2, v -> new HoleFair().check(v, 0));
        range("y with numbers", 0, 15, -2, v -> {
            HoleFair f = new HoleFair();
            f.feed(50, 50, 50, 50, 50);
            return f.check(v, 5);
        });
        range("n", 0, 16, -2, v -> {
            HoleFair f = new HoleFair();
            numbers(f, new int[20]);
            return f.check(3, v);
        });
        for (int feeds = 0; feeds <= 4; feeds++) {
            HoleFair f = new HoleFair();
            for (int i = 0; i < feeds; i++) {
                f.feed(50, 50, 50, 50, 50);
            }
            int most = Math.min(16, 5 * feeds);
            due("one more than it has, or than 16", f.check(3, most + 1), -2);
            due("the tape stays", f.count(4), 20 * feeds);
            due("no such y", f.check(16, most), -2);
            due("no such y", f.check(-1, most), -2);
            due("no such n", f.check(3, -1), -2);
            due("the tape stays", f.count(4), 20 * feeds);
            due("all it has, or 16", f.check(3, most), -1);
            due("empty then", f.count(4), 0);
        }
        HoleFair f = new HoleFair();
        f.feed(1, 2, 3, 4, 5);
        due("no number is right", f.check(3, 0), -1);
        due("empty then", f.count(4), 0);
    }

    private static void checkNumbers() {
        about("CHECK: THICK of its SQUARES (-1: BROKEN, -2: an OPEN HOLE): right, or the first that is not so");
        for (int x = 0; x < 16; x++) {
            HoleFair f = with("c1(1=1)");
            f.group(x, 15, 1);
            f.settle();
            f.cut((x + 1) % 16, 15, 0, 0, 0, 0);
            f.ice((x + 2) % 16, 15, 0);
            f.ice((x + 3) % 16, 15, 99);
            int[] right = new int[16];
            java.util.Arrays.fill(right, 50);
            right[x] = -1;
            right[(x + 1) % 16] = -2;
            right[(x + 2) % 16] = 0;
            right[(x + 3) % 16] = 99;
            numbers(f, right);
            due("right", f.check(15, 16), -1);
            for (int wrong : new int[] {-2, 50, -3, 0, LOW, HIGH, 255, -257}) {
                int[] one = right.clone();
                one[x] = wrong;
                numbers(f, one);
                due(wrong + " in place of -1", f.check(15, 16), x);
                one = right.clone();
                one[(x + 1) % 16] = wrong == -2 ? -1 : wrong;
                numbers(f, one);
                due("in place of -2", f.check(15, 16), (x + 1) % 16);
            }
            for (int bit = 0; bit < 32; bit++) {
                int[] one = right.clone();
                one[bit % 16] ^= 1 << bit;
                numbers(f, one);
                due("another bit " + bit, f.check(15, 16), bit % 16);
            }
            int[] two = right.clone();
            two[15] = 1;
            two[x] = 1;
            numbers(f, two);
            due("the first", f.check(15, 16), x);
            numbers(f, two);
            due("ahead of it all is right", f.check(15, x), -1);
            due("empty then", f.count(4), 0);
        }
        HoleFair f = with("c1(1=1)");
        f.cut(0, 0, 0, 0, 0, 0);
        f.ice(0, 0, 33);
        f.shut(0);
        numbers(f, 33);
        due("a shut hole is ice", f.check(0, 1), -1);
    }

    private static void count() {
        about("promise 27, count: NONE for others");
        range("what", 0, 7, -1, v -> twoHoles().count(v));
        HoleFair f = twoHoles();
        f.settle();
        f.shut(0);
        f.minutes(60);
        f.seed(65535);
        f.feed(0, 0, 0, 0, 0);
        int[] counts = {60, 2, 3, 3, 20, 65535, 1, 1};
        for (int what = 0; what < 8; what++) {
            due("count " + what, f.count(what), counts[what]);
        }
        f.ice(15, 15, 50);
        due("no square is broken", f.count(6), 0);
        due("a group is drowned", f.count(7), 1);
    }
}
