import java.util.ArrayList;
import java.util.HashMap;
import java.util.LinkedHashMap;
import java.util.List;
import java.util.Map;

/**
 * "A call that is refused (NONE, false) changes nothing but the tape, where it is told": behind each such
 * call all that can be asked of a lake is asked, and must be as it is without the call. The same is asked
 * behind each question, since a question changes nothing either. Every object stays below 512 calls, so
 * what is asked is cut into pieces, each upon a lake of its own.
 */
public final class RefusedTest extends Bench {
    private static final int LOW = Integer.MIN_VALUE;
    private static final int HIGH = Integer.MAX_VALUE;
    private static final String TEXT = "b12345/[x+1]+y(1=1);c1(x=2|y=3);t2(1=1)";
    private static final List<Call[]> PIECES = new ArrayList<>();
    private static final Map<String, List<long[]>> WITHOUT = new HashMap<>();

    /** How a lake comes to be what it is. */
    interface Scene {
        HoleFair made();
    }

    public static void main(String[] args) {
        makePieces();
        about("A call that is refused changes nothing");
        numbersBeyond("busy", RefusedTest::busy);
        numbersBeyond("full", RefusedTest::full);
        numbersBeyond("new", HoleFair::new);
        busyLake();
        fullLake();
        newLake();
        about("the tape stays");
        tapeStays();
        about("(empty then)");
        tapeEmptied();
        about("A question changes nothing");
        questions("busy", RefusedTest::busy);
        questions("full", RefusedTest::full);
        questions("new", HoleFair::new);
        end();
    }

    /** HOLES open and shut, GROUPS afloat and drowned, one lake kept and another one now, a text on the tape. */
    private static HoleFair busy() {
        HoleFair f = with("b60-n*5(1=1);t1(m%3=0);c1(i>20);gs*3+9-d(1=1)");
        f.cut(3, 3, 1, 4, 5, 6);
        f.cut(5, 4, 2, 9, 1, 0);
        f.cut(9, 9, 0, 2, 9, 3);
        f.shut(1);
        f.group(4, 9, 30);
        f.group(12, 12, 61);
        f.group(1, 6, 5);
        f.settle();
        f.ice(0, 0, 10);
        f.ice(7, 7, 0);
        f.seed(4711);
        f.minutes(4);
        f.keep();
        f.cut(13, 4, 4, 7, 2, 8);
        f.shut(0);
        f.group(15, 15, 61);
        f.group(14, 2, 33);
        f.ice(2, 2, 77);
        f.draw(3);
        feedText(f, TEXT);
        return f;
    }

    /** As many HOLES, GROUPS and bytes as can be. */
    private static HoleFair full() {
        HoleFair f = with("b50(1=1);c1(1=1);gs(1=1)");
        for (int i = 0; i < 12; i++) {
            f.cut(i % 4 * 4, i / 4 * 4, i % 5, i % 10, 9 - i % 10, i % 7);
        }
        f.shut(4);
        f.shut(11);
        for (int i = 0; i < 8; i++) {
            f.group(i + 1, 14, 45 + i);
        }
        f.settle();
        f.minutes(1);
        f.keep();
        f.seed(65535);
        f.draw(2);
        feedText(f, TEXT);
        for (int i = 0; i < 9; i++) {
            f.feed(i, 50, LOW, HIGH, -i);
        }
        return f;
    }

    private static void piece(List<Call> calls) {
        PIECES.add(calls.toArray(new Call[0]));
    }

    private static void makePieces() {
        for (boolean undone : new boolean[] {false, true}) {
            for (int w = 0; w <= 6; w++) {
                int what = w;
                List<Call> squares = begun(undone);
                for (int s = 0; s < 256; s++) {
                    int x = s % 16;
                    int y = s / 16;
                    squares.add(what < 6 ? f -> f.square(x, y, what) : f -> f.row(x, y));
                }
                piece(squares);
            }
            List<Call> things = begun(undone);
            addThings(things);
            piece(things);
        }
        List<Call> drawn = new ArrayList<>();
        drawn.add(f -> f.draw(7));
        addThings(drawn);
        piece(drawn);
        makeTapePieces();
    }

    private static List<Call> begun(boolean undone) {
        List<Call> calls = new ArrayList<>();
        if (undone) {
            calls.add(f -> one(f.undo()));
        }
        return calls;
    }

    private static void addThings(List<Call> calls) {
        for (int w = 0; w < 8; w++) {
            int what = w;
            calls.add(f -> f.count(what));
        }
        for (int i = 0; i < 12; i++) {
            int hole = i;
            for (int w = 0; w < 6; w++) {
                int what = w;
                calls.add(f -> f.holeIs(hole, what));
            }
            for (int k = 0; k < 8; k++) {
                int g = k;
                calls.add(f -> f.draws(hole, g));
            }
            calls.add(f -> f.sound(hole, 40));
            calls.add(f -> f.closing(1 << hole, 50, -1));
        }
        for (int k = 0; k < 8; k++) {
            int g = k;
            for (int w = 0; w < 3; w++) {
                int what = w;
                calls.add(f -> f.groupIs(g, what));
            }
            calls.add(f -> f.run(5, 10 + g));
        }
        calls.add(f -> f.rescue(0, 255, 55, -1));
        calls.add(f -> f.rescue(0, 255, 55, 500));
    }

    /** The text on the tape, read as a law, and what lies behind it. */
    private static void makeTapePieces() {
        List<Call> text = new ArrayList<>();
        text.add(f -> f.law(TEXT.length()));
        for (int i = 0; i < 16; i++) {
            int x = i;
            text.add(f -> f.square(x, 15 - x, 2));
            text.add(f -> f.cut(x, 6, 0, 0, 0, 0));
        }
        text.add(f -> f.minutes(1));
        text.add(f -> f.square(8, 8, 0));
        piece(text);
        List<Call> more = new ArrayList<>();
        more.add(f -> f.feed(1, 2, 3, 4, 5));
        more.add(f -> f.law(200));
        more.add(f -> f.law(41));
        more.add(f -> f.law(21));
        more.add(f -> f.law(1));
        more.add(f -> f.count(4));
        piece(more);
    }

    private static long[] answers(HoleFair f, Call[] piece) {
        long[] all = new long[piece.length];
        for (int i = 0; i < piece.length; i++) {
            all[i] = piece[i].on(f);
        }
        return all;
    }

    private static List<long[]> without(String name, Scene scene, boolean emptied) {
        return WITHOUT.computeIfAbsent(name + emptied, key -> {
            List<long[]> all = new ArrayList<>();
            for (Call[] piece : PIECES) {
                HoleFair f = scene.made();
                if (emptied) {
                    f.check(0, 0);
                }
                all.add(answers(f, piece));
            }
            return all;
        });
    }

    private static void same(String what, String name, Scene scene, boolean emptied, Call call) {
        List<long[]> due = without(name, scene, emptied);
        for (int p = 0; p < PIECES.size(); p++) {
            HoleFair f = scene.made();
            call.on(f);
            long[] got = answers(f, PIECES.get(p));
            for (int i = 0; i < got.length; i++) {
                due(name + ", " + what + ", then piece " + p + " at " + i, got[i], due.get(p)[i]);
            }
        }
    }

    /** A call that is refused by an answer, and leaves the tape. */
    private static void refused(String what, long answer, String name, Scene scene, Call call) {
        due(name + ", " + what, call.on(scene.made()), answer);
        same(what, name, scene, false, call);
    }

    private static void emptied(String what, long answer, String name, Scene scene, Call call) {
        due(name + ", " + what, call.on(scene.made()), answer);
        same(what, name, scene, true, call);
    }

    /** Numbers that are there in no lake. */
    private static void numbersBeyond(String name, Scene scene) {
        for (int v : new int[] {LOW, -1, 16, HIGH}) {
            refused("ice x " + v, 0, name, scene, f -> one(f.ice(v, 3, 9)));
            refused("ice y " + v, 0, name, scene, f -> one(f.ice(3, v, 9)));
            refused("cut x " + v, -1, name, scene, f -> f.cut(v, 3, 0, 0, 0, 0));
            refused("cut y " + v, -1, name, scene, f -> f.cut(3, v, 0, 0, 0, 0));
            refused("group x " + v, -1, name, scene, f -> f.group(v, 3, 9));
            refused("group y " + v, -1, name, scene, f -> f.group(3, v, 9));
            refused("square x " + v, -1, name, scene, f -> f.square(v, 3, 2));
            refused("row y " + v, -1, name, scene, f -> f.row(3, v));
            refused("check y " + v, -2, name, scene, f -> f.check(v, 0));
            refused("shut " + v, 0, name, scene, f -> one(f.shut(v)));
        }
        refused("thick below", 0, name, scene, f -> one(f.ice(3, 3, -1)));
        refused("thick above", 0, name, scene, f -> one(f.ice(3, 3, 100)));
        refused("kind", -1, name, scene, f -> f.cut(6, 6, 5, 0, 0, 0));
        refused("heat", -1, name, scene, f -> f.cut(6, 6, 0, 10, 0, 0));
        refused("smell", -1, name, scene, f -> f.cut(6, 6, 0, 0, -1, 0));
        refused("price", -1, name, scene, f -> f.cut(6, 6, 0, 0, 0, 10));
        refused("weight below", -1, name, scene, f -> f.group(6, 6, 0));
        refused("weight above", -1, name, scene, f -> f.group(6, 6, 100));
        for (int n : new int[] {LOW, -1, 0, 61, HIGH}) {
            refused("minutes " + n, -1, name, scene, f -> f.minutes(n));
            refused("draw " + n, -1, name, scene, f -> f.draw(n));
            refused("run " + n, -1, name, scene, f -> f.run(n, 0));
        }
        for (int x : new int[] {LOW, -1, 65536, HIGH}) {
            refused("seed " + x, 0, name, scene, f -> one(f.seed(x)));
        }
        refused("run what", -1, name, scene, f -> f.run(60, 9));
        refused("count", -1, name, scene, f -> f.count(8));
    }

    private static void busyLake() {
        String name = "busy";
        Scene scene = RefusedTest::busy;
        refused("cut at an open hole", -1, name, scene, f -> f.cut(9, 9, 0, 0, 0, 0));
        refused("cut where it is broken", -1, name, scene, f -> f.cut(12, 12, 0, 0, 0, 0));
        refused("cut by the law", -2, name, scene, f -> f.cut(0, 0, 0, 0, 0, 0));
        refused("cut at a group", -1, name, scene, f -> f.cut(f.groupIs(4, 0) % 16, f.groupIs(4, 0) / 16, 0, 0, 0, 0));
        refused("a shut hole", 0, name, scene, f -> one(f.shut(0)));
        refused("another shut hole", 0, name, scene, f -> one(f.shut(1)));
        refused("no such hole", 0, name, scene, f -> one(f.shut(4)));
        refused("group at an open hole", -1, name, scene, f -> f.group(9, 9, 9));
        refused("group where it is broken", -1, name, scene, f -> f.group(12, 12, 9));
        refused("no such group then", -1, name, scene, f -> f.run(60, 15));
        refused("closing a shut one", -2, name, scene, f -> f.closing(5, 40, -1));
        refused("closing none", -3, name, scene, f -> f.closing(0, 40, -1));
        refused("no way", -2, name, scene, f -> f.rescue(0, 255, 9999, -1));
        refused("no such way", -3, name, scene, f -> f.rescue(0, 256, 9, -1));
        Scene rows = () -> {
            HoleFair f = busy();
            f.cut(11, 9, 0, 0, 0, 0);
            return f;
        };
        refused("cut in a row", -3, "rows", rows, f -> f.cut(13, 9, 0, 0, 0, 0));
    }

    private static void fullLake() {
        String name = "full";
        Scene scene = RefusedTest::full;
        refused("a thirteenth hole", -1, name, scene, f -> f.cut(14, 2, 0, 0, 0, 0));
        refused("a ninth group", -1, name, scene, f -> f.group(14, 2, 9));
        refused("221 bytes", -1, name, scene, f -> f.feed(7, 7, 7, 7, 7));
        refused("nine to close", -3, name, scene, f -> f.closing(0x5ef, 40, -1));
        refused("sound of a shut one", -1, name, scene, f -> f.sound(4, 1));
        refused("hole 12", 0, name, scene, f -> one(f.shut(12)));
    }

    private static void newLake() {
        String name = "new";
        Scene scene = HoleFair::new;
        refused("nothing kept", 0, name, scene, f -> one(f.undo()));
        refused("no law", -2, name, scene, f -> f.cut(3, 3, 0, 0, 0, 0));
        refused("no hole", 0, name, scene, f -> one(f.shut(0)));
        refused("no tape for law", -1, name, scene, f -> f.law(1));
        refused("no tape for places", -3, name, scene, f -> f.places(1, -1));
        refused("no tape for began", -3, name, scene, f -> f.began(1, 0));
        refused("no tape for fee", -3, name, scene, f -> f.fee(1, 9, -1));
        refused("no tape for check", -2, name, scene, f -> f.check(0, 1));
    }

    private static void tapeStays() {
        String name = "busy";
        Scene scene = RefusedTest::busy;
        for (int n : new int[] {LOW, -1, 0, 41, 200, 201, HIGH}) {
            refused("law " + n, -1, name, scene, f -> f.law(n));
        }
        for (int n : new int[] {LOW, -1, 0, 11, HIGH}) {
            refused("places " + n, -3, name, scene, f -> f.places(n, -1));
            refused("fee " + n, -3, name, scene, f -> f.fee(n, 9, -1));
        }
        for (int n : new int[] {LOW, -1, 0, 41, HIGH}) {
            refused("began " + n, -3, name, scene, f -> f.began(n, 0));
        }
        for (int n : new int[] {LOW, -1, 11, 16, 17, HIGH}) {
            refused("check " + n, -2, name, scene, f -> f.check(3, n));
        }
        for (int what : new int[] {LOW, -2, 0, 2, HIGH}) {
            refused("places what " + what, -3, name, scene, f -> f.places(1, what));
        }
        for (int what : new int[] {LOW, -1, 2, HIGH}) {
            refused("began what " + what, -3, name, scene, f -> f.began(1, what));
        }
        for (int what : new int[] {LOW, -2, 3, HIGH}) {
            refused("fee what " + what, -3, name, scene, f -> f.fee(3, 9, what));
        }
        for (int load : new int[] {LOW, -1, 10000, HIGH}) {
            refused("fee load " + load, -3, name, scene, f -> f.fee(3, load, -1));
        }
        refused("full, law 201", -1, "full", RefusedTest::full, f -> f.law(201));
        refused("full, began 41", -3, "full", RefusedTest::full, f -> f.began(41, 0));
        refused("full, check 17", -2, "full", RefusedTest::full, f -> f.check(0, 17));
    }

    private static void tapeEmptied() {
        String name = "busy";
        Scene scene = RefusedTest::busy;
        emptied("law, its end", -1002, name, scene, f -> f.law(2));
        emptied("law, behind a ;", -1020, name, scene, f -> f.law(20));
        emptied("law, a blank byte", -1039, name, scene, f -> f.law(40));
        Scene told = () -> {
            HoleFair f = busy();
            f.check(0, 0);
            feed(f, 0, 5, 0, 6, 153, 7, 153, 8);
            return f;
        };
        emptied("places, twice", -2, "told", told, f -> f.places(2, -1));
        emptied("fee, twice", -2, "told", told, f -> f.fee(2, 9, -1));
        emptied("began, twice", -2, "told", told, f -> f.began(3, 0));
        emptied("check, not so", 0, "told", told, f -> f.check(0, 1));
        Scene hole = () -> {
            HoleFair f = busy();
            f.check(0, 0);
            feed(f, 153, 204);
            return f;
        };
        emptied("fee, an open hole", -2, "hole", hole, f -> f.fee(1, 9, -1));
        emptied("began, an open hole", -2, "hole", hole, f -> f.began(1, 0));
        emptied("began, and a broken one", -2, "hole", hole, f -> f.began(2, 0));
        emptied("places, an open hole", 0, "hole", hole, f -> f.places(1, -1));
        Scene broken = () -> {
            HoleFair f = busy();
            f.check(0, 0);
            feed(f, 204, 9);
            return f;
        };
        emptied("fee, a broken one", -2, "broken", broken, f -> f.fee(1, 9, -1));
        emptied("began, a broken one", -2, "broken", broken, f -> f.began(1, 0));
    }

    private static void questions(String name, Scene scene) {
        Map<String, Call> asked = new LinkedHashMap<>();
        asked.put("run", f -> f.run(60, 0));
        asked.put("run broken", f -> f.run(33, 1));
        asked.put("run group", f -> f.run(60, 10));
        asked.put("square", f -> f.square(5, 5, 2));
        asked.put("holeIs", f -> f.holeIs(0, 0));
        asked.put("groupIs", f -> f.groupIs(0, 2));
        asked.put("draws", f -> f.draws(2, 0));
        asked.put("sound", f -> f.sound(2, 50));
        asked.put("closing", f -> f.closing(4, 50, -1));
        asked.put("rescue", f -> f.rescue(0, 255, 61, 9));
        asked.put("row", f -> f.row(5, 5));
        asked.put("count", f -> f.count(6));
        for (Map.Entry<String, Call> q : asked.entrySet()) {
            same(q.getKey(), name, scene, false, q.getValue());
        }
        Map<String, Call> told = new LinkedHashMap<>();
        told.put("places", f -> f.places(10, 1));
        told.put("fee", f -> f.fee(10, 50, -1));
        told.put("began", f -> f.began(3, 0));
        told.put("check", f -> f.check(0, 5));
        told.put("check of none", f -> f.check(0, 0));
        for (Map.Entry<String, Call> q : told.entrySet()) {
            same(q.getKey(), name, scene, true, q.getValue());
        }
        // what would break much is asked of squares that are whole
        Scene groups = () -> {
            HoleFair f = scene.made();
            f.check(0, 0);
            feed(f, 33, 34, 35, 150, 151, 166, 167, 200);
            return f;
        };
        for (int n = 1; n <= 8; n++) {
            int many = n;
            same("began of whole ones", name + " with squares", groups, true, f -> f.began(many, 1));
        }
    }
}
