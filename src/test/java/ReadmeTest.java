/** What README.md says of its example, the tape and refused calls. */
public final class ReadmeTest extends Bench {
    public static void main(String[] args) {
        example();
        withoutLaw();
        tapeStays();
        tapeIsEmptied();
        refused();
        noRefusal();
        end();
    }

    private static void example() {
        about("README, the example");
        HoleFair fair = new HoleFair();
        due("feed", fair.feed(0x62692831, 0x3d31293b, 0x63312831, 0x3d312900, 0), 20);
        due("law", fair.law(15), 2);
        due("the tape", fair.count(4), 0);
        due("cut", fair.cut(5, 5, 0, 3, 4, 2), 0);
        due("group", fair.group(8, 5, 60), 0);
        due("run", fair.run(1, 0), 1);
        due("nothing is changed", fair.groupIs(0, 0), 88);
        due("keep", fair.keep(), 0);
        due("settle", fair.settle(), 1);
        due("undo", fair.undo(), true);
        due("whole again", fair.square(8, 5, 1), 0);
        due("the group is on it", fair.square(8, 5, 3), 60);
    }

    private static void withoutLaw() {
        about("README, without a law");
        HoleFair f = with("c1(1=1)");
        f.cut(5, 5, 0, 0, 9, 9);
        f.group(9, 9, 1);
        due("none draws a group", f.draws(0, 0), 0);
        f = new HoleFair();
        due("no hole may be cut", f.cut(5, 5, 0, 0, 9, 9), -2);
        due("a square bears nothing", f.square(5, 5, 2), 0);
        f.minutes(60);
        due("no ice thaws", f.square(5, 5, 0), 50);
    }

    private static HoleFair fedLake() {
        HoleFair f = new HoleFair();
        numbers(f, 50, 50, 0x01010101, 0, 0);
        return f;
    }

    private static void stays(String what, Call call, long want) {
        HoleFair f = fedLake();
        due(what, call.on(f), want);
        due("the tape behind " + what, f.count(4), 20);
    }

    private static void empties(String what, Call call, long want) {
        HoleFair f = fedLake();
        due(what, call.on(f), want);
        due("the tape behind " + what, f.count(4), 0);
    }

    private static void tapeStays() {
        about("README, the tape stays as it is");
        stays("law(0)", f -> f.law(0), -1);
        stays("law(21)", f -> f.law(21), -1);
        stays("places(11, 1)", f -> f.places(11, 1), -3);
        stays("places(1, 0)", f -> f.places(1, 0), -3);
        stays("fee(11, 1, -1)", f -> f.fee(11, 1, -1), -3);
        stays("fee(1, 10000, -1)", f -> f.fee(1, 10000, -1), -3);
        stays("began(21, 0)", f -> f.began(21, 0), -3);
        stays("began(1, 2)", f -> f.began(1, 2), -3);
        stays("check(0, 6)", f -> f.check(0, 6), -2);
        stays("check(16, 1)", f -> f.check(16, 1), -2);
    }

    private static void tapeIsEmptied() {
        about("README, the whole tape is empty then");
        empties("a fault", f -> f.law(3), -1000);
        empties("places(2, 1)", f -> f.places(2, 1), -2);
        empties("places(1, 1)", f -> f.places(1, 1), 0);
        empties("fee(2, 1, -1)", f -> f.fee(2, 1, -1), -2);
        empties("fee(1, 1, -1)", f -> f.fee(1, 1, -1), 0);
        empties("began(2, 0)", f -> f.began(2, 0), -2);
        empties("began(1, 0)", f -> f.began(1, 0), 1);
        empties("check(3, 2)", f -> f.check(3, 2), -1);
        empties("check(3, 3)", f -> f.check(3, 3), 2);
        empties("check(0, 0)", f -> f.check(0, 0), -1);
    }

    private static void refused() {
        about("README, what a refused call answers");
        HoleFair f = new HoleFair();
        due("ice", f.ice(16, 0, 0), false);
        due("shut", f.shut(0), false);
        due("seed", f.seed(-1), false);
        due("undo", f.undo(), false);
        due("group", f.group(0, 0, 0), -1);
        due("minutes", f.minutes(0), -1);
        due("run", f.run(1, 10), -1);
        due("square", f.square(0, 0, 6), -1);
        due("holeIs", f.holeIs(0, 0), -1);
        due("groupIs", f.groupIs(0, 0), -1);
        due("draws", f.draws(0, 0), -1);
        due("sound", f.sound(0, 0), -1);
        due("row", f.row(16, 0), -1);
        due("draw", f.draw(61), -1);
        due("count", f.count(8), -1);
        due("cut", f.cut(0, 0, 5, 0, 0, 0), -1);
        due("closing", f.closing(1, 0, -1), -3);
        due("rescue", f.rescue(0, 0, 0, -1), -3);
        due("no way", f.rescue(0, 0, 101, -1), -2);
        for (int i = 0; i < 11; i++) {
            due("feed", f.feed(0, 0, 0, 0, 0), 20 * i + 20);
        }
        due("a twelfth feed", f.feed(0, 0, 0, 0, 0), -1);
        f = with("c1(1=1)");
        f.cut(0, 0, 0, 0, 0, 0);
        f.cut(2, 0, 0, 0, 0, 0);
        due("a row", f.cut(4, 0, 0, 0, 0, 0), -3);
        f.shut(0);
        due("one is shut", f.closing(3, 0, -1), -2);
    }

    private static void noRefusal() {
        about("README, NONE is no refusal");
        HoleFair f = fedLake();
        due("all right", f.check(0, 2), -1);
        f.group(4, 4, 1);
        due("no hole draws it", f.groupIs(0, 2), -1);
        feed(f, 7, 8);
        due("no square began it", f.began(2, 1), -1);
    }
}
