import java.util.Random;

/** Long runs of drawn calls, each answer held against the model's. The draws are the same in every run. */
public final class ModelTest {
    private static final String[] LAWS = {
        "bi*2-n*10(1=1);t1(m<5);c1(i>20);gs*3-d+k(1=1)",
        "bi-n*9(1=1);c1(1=1);gs+1(1=1)",
        "b99-n*20-h(i>0);t[h+1]/2(h>0|m%7=3);c1(n<3&!(x=y));g50-d*2+q*p(w<60);g99/[d-3](1=1)",
        "bi+50(k=9);b7(k<3);t9(k<5);t1(m%10=0);c[k+1]%3(1=1);g999(s>p);gw(d>2&q<2)",
        "b120-n*30(!i<10);b20(1=1);c1(1=1);g10*s-p-d(1=1);t1(x%2=y%2);t2(x>7|1/[x-3]=0)",
        "b99999(x/0=0);b40+x-y*2(1=1);c1(1=1|1/0=1);g99999*99999(w>50);g60-d(1=1)",
        "bi*i/20-n*n*3(1=1);t1(i>30);c1(i>9);gs*10/[d+1]+q(1=1)",
        "b[m+1]*10%97(1=1);t1+h/3(1=1);c1(h<12);g5+k*3-p(d<12)",
        "b200-n*25-m(1=1);t1(h>0&m%3=0);c1(1=1);gs*9+p-d+w%7(1=1)",
        "b150+x*y-n*30(1=1);c1(1=1);t1(n>2);g[q+1]*20-d*3+k(d<9|p>4);gi-h(n<5)",
    };
    private static final String SIGNS = "inhxymkspdwqbtcg0123456789+-*/%<>=&|!()[];";

    private final Random dice;
    private HoleFair fair;
    private Model model;
    private final StringBuilder log = new StringBuilder();
    private long calls = 0;
    private boolean wrong = false;

    private ModelTest(long seed) {
        dice = new Random(seed);
    }

    public static void main(String[] args) {
        int runs = args.length > 0 ? Integer.parseInt(args[0]) : 100;
        long first = args.length > 1 ? Long.parseLong(args[1]) : 0;
        long calls = 0;
        for (long seed = first; seed < first + runs; seed++) {
            ModelTest test = new ModelTest(seed);
            test.wholeRun();
            calls += test.calls;
            if (test.wrong) {
                System.out.println("seed " + seed + ":");
                System.out.println(test.log);
                System.exit(1);
            }
        }
        texts(40000 * Math.min(runs, 100) / 100);
        System.out.println(calls + " drawn calls answer as the model does");
    }

    /** Faults of texts that are nearly right, and what the right ones say. */
    private static void texts(int many) {
        ModelTest test = new ModelTest(99);
        for (int i = 0; i < many; i++) {
            if (i % 50 == 0) {
                test.peopledLake();
            }
            test.someLaw();
            test.askLaw();
            if (test.wrong) {
                System.out.println(test.log);
                System.exit(1);
            }
        }
    }

    private void peopledLake() {
        fair = new HoleFair();
        model = new Model();
        log.setLength(0);
        putLaw("c1(1=1);b999(1=1)");
        for (int i = 0; i < 8; i++) {
            cut(near(), near());
            group(near(), near(), about(1, 99));
            ice(near(), near(), about(0, 99));
        }
        minutes(1 + below(9));
    }

    private void askLaw() {
        for (int i = 0; i < 3; i++) {
            draws(someHole(), someGroup());
            square(near(), near(), 2);
        }
    }

    private void wholeRun() {
        fair = new HoleFair();
        model = new Model();
        if (below(10) > 0) {
            putLaw(LAWS[below(LAWS.length)]);
        }
        for (int i = 0; i < 60 && !wrong; i++) {
            someCall();
        }
        boolean busy = below(2) == 0;
        for (int i = 0; i < 100 && !wrong; i++) {
            if (busy) {
                someSearch();
            }
            someCall();
        }
        for (int y = 0; y < 16; y++) {
            for (int x = 0; x < 16 && !wrong; x++) {
                square(x, y, below(6));
            }
        }
    }

    private int below(int n) {
        return dice.nextInt(n);
    }

    /** Mostly within, now and then just beyond. */
    private int about(int least, int most) {
        int odd = below(40);
        return odd == 0 ? least - 1 : odd == 1 ? most + 1 : least + below(most - least + 1);
    }

    private int near() {
        // most things happen in a corner, so that they meet
        return below(3) > 0 ? 3 + below(6) : about(0, 15);
    }

    private void same(String call, long got, long due) {
        calls++;
        log.append(call).append(" = ").append(got).append('\n');
        if (got != due && !wrong) {
            wrong = true;
            log.append("due is ").append(due).append('\n');
        }
    }

    private static int one(boolean b) {
        return b ? 1 : 0;
    }

    private void square(int x, int y, int what) {
        same("square " + x + " " + y + " " + what, fair.square(x, y, what), model.square(x, y, what));
    }

    private void feed(int... v) {
        same("feed " + java.util.Arrays.toString(v), fair.feed(v[0], v[1], v[2], v[3], v[4]), model.feed(v));
    }

    private void feedBytes(int[] bytes) {
        for (int from = 0; from < bytes.length; from += 20) {
            int[] v = new int[5];
            for (int i = 0; i < 20; i++) {
                int b = from + i < bytes.length ? bytes[from + i] : ' ';
                v[i / 4] |= b << (24 - i % 4 * 8);
            }
            feed(v);
        }
    }

    private void emptyTape() {
        if (model.tape.size() > 0) {
            same("check 0 0", fair.check(0, 0), model.check(0, 0));
        }
    }

    private void putLaw(String text) {
        emptyTape();
        int[] bytes = new int[text.length()];
        for (int i = 0; i < bytes.length; i++) {
            bytes[i] = text.charAt(i);
        }
        feedBytes(bytes);
        same("law " + text, fair.law(bytes.length), model.law(bytes.length));
    }

    /** A law at random drowns nearly all, so it comes seldom, and a better one soon behind it. */
    private void changeLaw() {
        if (below(4) == 0) {
            someLaw();
        } else {
            putLaw(LAWS[below(LAWS.length)]);
        }
    }

    private int someHole() {
        return below(8) == 0 ? about(0, 11) : below(Math.max(1, model.holes.size()));
    }

    private int someGroup() {
        int g = below(8) == 0 ? about(0, 7) : below(Math.max(1, model.groups.size()));
        for (int i = 0; i < model.groups.size() && below(4) > 0; i++) {
            g = model.groups.get(i).drowned || below(3) == 0 ? g : i;
        }
        return g;
    }

    private void someLaw() {
        String text;
        if (below(4) == 0) {
            text = LAWS[below(LAWS.length)];
        } else {
            StringBuilder t = new StringBuilder();
            int clauses = below(30) == 0 ? 13 + below(4) : 1 + below(5);
            for (int i = 0; i < clauses; i++) {
                t.append(i > 0 ? ";" : "").append("btcg".charAt(below(4)));
                boolean brief = clauses > 8;
                t.append(brief ? "i" : someE(below(9) == 0 ? 6 : 2)).append('(');
                t.append(brief ? "m=1" : someC(below(9) == 0 ? 6 : 2)).append(')');
            }
            text = t.toString();
        }
        for (int i = below(3); i > 0 && !text.isEmpty(); i--) {
            int at = below(text.length());
            String sign = below(20) == 0 ? String.valueOf((char) below(256)) : String.valueOf(SIGNS.charAt(below(SIGNS.length())));
            int how = below(4);
            text = text.substring(0, at) + (how < 2 ? sign : "") + text.substring(how == 0 ? at : how == 3 ? text.length() : at + 1);
        }
        if (text.length() > 200) {
            text = text.substring(0, 200);
        }
        if (!text.isEmpty()) {
            putLaw(text);
        }
    }

    private String someE(int depth) {
        StringBuilder t = new StringBuilder(someFactor(depth));
        for (int i = below(3); i > 0; i--) {
            t.append("+-*/%".charAt(below(5))).append(someFactor(depth));
        }
        return t.toString();
    }

    private String someFactor(int depth) {
        int how = below(depth > 2 ? 4 : 8);
        if (how < 2 && depth > 0) {
            return "[" + someE(depth - 1) + "]";
        }
        if (how % 2 == 0) {
            return String.valueOf("inhxymkspdwq".charAt(below(12)));
        }
        int[] sizes = {3, 10, 100, 100000};
        return String.valueOf(below(sizes[below(4)]));
    }

    private String someC(int depth) {
        StringBuilder t = new StringBuilder(somePiece(depth));
        for (int i = below(3); i > 0; i--) {
            t.append("&|".charAt(below(2))).append(somePiece(depth));
        }
        return t.toString();
    }

    private String somePiece(int depth) {
        int how = below(depth > 2 ? 4 : 8);
        if (how < 2 && depth > 0) {
            return how == 0 ? "!" + somePiece(depth - 1) : "(" + someC(depth - 1) + ")";
        }
        return someE(Math.min(depth, 1)) + "<>=".charAt(below(3)) + someE(0);
    }

    private void someCall() {
        switch (below(22)) {
            case 0: ice(near(), near(), about(0, 99)); break;
            case 1: changeLaw(); break;
            case 2: case 3: case 4: case 5: cut(near(), near()); break;
            case 6: shut(below(5) > 0 ? model.holes.size() - 1 - below(3) : about(0, 11)); break;
            case 7: case 8: group(near(), near(), about(1, 99)); break;
            case 9: same("settle", fair.settle(), model.settle()); break;
            case 10: minutes(below(3) > 0 ? 1 + below(4) : about(1, 60)); break;
            case 11: case 12: square(near(), near(), about(0, 5)); break;
            case 13: draw(below(3) > 0 ? 1 + below(4) : about(1, 60)); break;
            case 14: keepOrUndo(); break;
            case 15: seed(about(0, 65535)); break;
            case 16: count(about(0, 7)); break;
            case 17: row(near(), near()); break;
            case 18: holeIs(someHole(), about(0, 5)); break;
            case 19: groupIs(someGroup(), about(0, 2)); break;
            case 20: draws(someHole(), someGroup()); break;
            default: someSearch(); break;
        }
    }

    private void someSearch() {
        switch (below(9)) {
            case 0: run(below(3) > 0 ? 1 + below(9) : about(1, 60), below(2) == 0 ? about(0, 1) : 10 + someGroup()); break;
            case 1: sound(someHole(), someLoad()); break;
            case 2: places(); break;
            case 3: closing(); break;
            case 4: case 5: rescue(); break;
            case 6: began(); break;
            case 7: fee(); break;
            default: check(); break;
        }
    }

    private int someLoad() {
        return below(9) > 0 ? below(160) : about(0, 9999);
    }

    private void ice(int x, int y, int t) {
        same("ice " + x + " " + y + " " + t, one(fair.ice(x, y, t)), model.ice(x, y, t));
    }

    private void cut(int x, int y) {
        int kind = about(0, 4);
        int heat = about(0, 9);
        int smell = about(0, 9);
        int price = about(0, 9);
        same("cut " + x + " " + y + " " + kind + " " + heat + " " + smell + " " + price,
                fair.cut(x, y, kind, heat, smell, price), model.cut(x, y, kind, heat, smell, price));
    }

    private void shut(int h) {
        same("shut " + h, one(fair.shut(h)), model.shut(h));
    }

    private void group(int x, int y, int w) {
        same("group " + x + " " + y + " " + w, fair.group(x, y, w), model.group(x, y, w));
    }

    private void minutes(int n) {
        same("minutes " + n, fair.minutes(n), model.minutes(n));
    }

    private void run(int n, int what) {
        same("run " + n + " " + what, fair.run(n, what), model.run(n, what));
    }

    private void draw(int n) {
        same("draw " + n, fair.draw(n), model.draw(n));
    }

    private void keepOrUndo() {
        // what was kept with GROUPS afloat is undone oftener than kept over
        if (model.kept == null || below(4) == 0) {
            same("keep", fair.keep(), model.keep());
        } else {
            same("undo", one(fair.undo()), model.undo());
        }
    }

    private void seed(int x) {
        same("seed " + x, one(fair.seed(x)), model.seed(x));
    }

    private void count(int what) {
        same("count " + what, fair.count(what), model.count(what));
    }

    private void row(int x, int y) {
        same("row " + x + " " + y, fair.row(x, y), model.row(x, y));
    }

    private void holeIs(int h, int what) {
        same("holeIs " + h + " " + what, fair.holeIs(h, what), model.holeIs(h, what));
    }

    private void groupIs(int g, int what) {
        same("groupIs " + g + " " + what, fair.groupIs(g, what), model.groupIs(g, what));
    }

    private void draws(int h, int g) {
        same("draws " + h + " " + g, fair.draws(h, g), model.draws(h, g));
    }

    private void sound(int h, int load) {
        same("sound " + h + " " + load, fair.sound(h, load), model.sound(h, load));
    }

    private int[] somePairs(int n) {
        int[] bytes = new int[2 * n];
        for (int i = 0; i < n; i++) {
            bytes[2 * i] = below(2) == 0 ? below(256) : 16 * (3 + below(7)) + 3 + below(7);
            bytes[2 * i + 1] = below(2) == 0 ? below(256) : below(7);
        }
        return bytes;
    }

    private void places() {
        if (below(9) > 0) {
            emptyTape();
        }
        int n = about(1, 10);
        feedBytes(somePairs(Math.max(1, below(20) == 0 ? n - 1 : n)));
        int what = below(20) == 0 ? below(4) - 1 : below(2) == 0 ? -1 : 1;
        same("places " + n + " " + what, fair.places(n, what), model.places(n, what));
    }

    private void closing() {
        int bits = below(9) == 0 ? below(8192) - 1 : 0;
        for (int h = 0; h < model.holes.size() && bits == 0; h++) {
            for (int k = 0; k < model.holes.size(); k++) {
                boolean wanted = model.holes.get(k).open ? below(3) > 0 : below(30) == 0;
                bits |= wanted && Integer.bitCount(bits) < 7 ? 1 << k : 0;
            }
        }
        int what = about(-1, Math.max(0, Integer.bitCount(bits) - 1));
        int load = someLoad();
        same("closing " + bits + " " + load + " " + what, fair.closing(bits, load, what), model.closing(bits, load, what));
    }

    private void rescue() {
        int from = about(0, 255);
        int to = below(3) == 0 ? about(0, 255) : 16 * (3 + below(7)) + 3 + below(7);
        int weight = below(3) > 0 ? 1 + below(240) : about(1, 9999);
        if (Model.there(from % 16, from / 16) && below(2) == 0) {
            weight = Math.max(1, model.bears(from % 16, from / 16) + below(60) - 20);
        }
        int what = below(3) == 0 ? -1 : below(2) == 0 ? 500 : below(20);
        if (below(8) == 0) {
            what = below(2) == 0 ? about(0, 500) : about(255, 256);
        }
        same("rescue " + from + " " + to + " " + weight + " " + what,
                fair.rescue(from, to, weight, what), model.rescue(from, to, weight, what));
    }

    /** Told squares are mostly those that a break would really bring. */
    private void began() {
        emptyTape();
        int first = below(256);
        for (Model.Group g : model.groups) {
            first = !g.drowned && below(3) == 0 ? 16 * g.y + g.x + (below(3) - 1) * (below(2) == 0 ? 1 : 16) : first;
        }
        first &= 255;
        java.util.List<Integer> squares = new java.util.ArrayList<>();
        if (below(5) > 0 && model.firm(first % 16, first / 16)) {
            Model m = model.copy();
            m.breakAt(first % 16, first / 16);
            m.settled();
            for (int s = 255; s >= 0; s--) {
                if (m.broken[s / 16][s % 16] && !model.broken[s / 16][s % 16]) {
                    squares.add(s);
                }
            }
        }
        while (squares.isEmpty() || below(9) == 0 && squares.size() < 42) {
            squares.add(below(256));
        }
        int[] bytes = new int[squares.size()];
        for (int i = 0; i < bytes.length; i++) {
            bytes[i] = squares.get(i);
        }
        feedBytes(bytes);
        int n = below(30) == 0 ? about(1, 40) : bytes.length;
        int what = below(20) == 0 ? below(4) - 1 : below(2);
        same("began " + n + " " + what, fair.began(n, what), model.began(n, what));
    }

    private void fee() {
        if (below(9) > 0) {
            emptyTape();
        }
        int n = about(1, 10);
        feedBytes(somePairs(Math.max(1, below(20) == 0 ? n - 1 : n)));
        int load = someLoad();
        int what = below(2) == 0 ? -1 : about(-1, Math.max(0, n - 1));
        same("fee " + n + " " + load + " " + what, fair.fee(n, load, what), model.fee(n, load, what));
    }

    private void check() {
        emptyTape();
        int y = near();
        int n = about(0, 16);
        int[] bytes = new int[64];
        for (int x = 0; x < 16; x++) {
            int v = Model.there(x, y) ? model.seen(x, y) : 0;
            v ^= below(60) == 0 ? 1 << below(32) : 0;
            for (int b = 0; b < 4; b++) {
                bytes[4 * x + b] = v >>> (24 - 8 * b) & 255;
            }
        }
        feedBytes(bytes);
        same("check " + y + " " + n, fair.check(y, n), model.check(y, n));
    }
}
