import java.util.ArrayList;
import java.util.HashSet;
import java.util.List;
import java.util.Set;

/**
 * The document once more, as slowly and as plainly as can be: nothing is carried along, every
 * question is reckoned anew from the lake, and every search looks at all there is.
 */
final class Model {
    static final class Hole {
        int x, y, kind, heat, smell, price;
        boolean open = true;
    }

    static final class Group {
        int x, y, weight;
        boolean drowned = false;
    }

    static final class Refused extends RuntimeException {
        private static final long serialVersionUID = 1L;
    }

    int[][] thick = new int[16][16];
    boolean[][] broken = new boolean[16][16];
    List<Hole> holes = new ArrayList<>();
    List<Group> groups = new ArrayList<>();
    int minute = 0;
    int x = 1;
    String law = "";
    List<Integer> tape = new ArrayList<>();
    Model kept = null;

    Model() {
        for (int[] row : thick) {
            java.util.Arrays.fill(row, 50);
        }
    }

    Model copy() {
        Model m = new Model();
        m.takeLake(this);
        m.law = law;
        return m;
    }

    void takeLake(Model o) {
        for (int i = 0; i < 16; i++) {
            thick[i] = o.thick[i].clone();
            broken[i] = o.broken[i].clone();
        }
        holes = new ArrayList<>();
        for (Hole h : o.holes) {
            Hole k = new Hole();
            k.x = h.x;
            k.y = h.y;
            k.kind = h.kind;
            k.heat = h.heat;
            k.smell = h.smell;
            k.price = h.price;
            k.open = h.open;
            holes.add(k);
        }
        groups = new ArrayList<>();
        for (Group g : o.groups) {
            Group k = new Group();
            k.x = g.x;
            k.y = g.y;
            k.weight = g.weight;
            k.drowned = g.drowned;
            groups.add(k);
        }
        minute = o.minute;
        x = o.x;
    }

    // ---- the text

    static final String LETTERS = "inhxymkspdwq";

    /** 0 if the text can stand, else the answer of its fault: an automaton with a row of what is open. */
    static int fault(String t) {
        StringBuilder open = new StringBuilder();
        int mode = 0;
        int clauses = 0;
        int digits = 0;
        for (int at = 0; at < t.length(); at++) {
            char c = t.charAt(at);
            boolean digit = c >= '0' && c <= '9';
            char top = open.length() == 0 ? ' ' : open.charAt(open.length() - 1);
            if (mode == 0) {
                if ("btcg".indexOf(c) < 0) {
                    return -1000 - at;
                }
                if (clauses == 14) {
                    return -4000 - at;
                }
                clauses++;
                open.append('E');
                mode = 1;
                continue;
            }
            if (mode == 2 && (c == '!' || c == '(')) {
                if (depth(open) == 6) {
                    return -5000 - at;
                }
                open.append(c);
                continue;
            }
            if (mode == 1 || mode == 2) {
                if (!digit && c != '[' && LETTERS.indexOf(c) < 0) {
                    return -1000 - at;
                }
                if (mode == 2) {
                    open.append('L');
                }
                if (c == '[') {
                    if (depth(open) == 6) {
                        return -5000 - at;
                    }
                    open.append('[');
                    mode = 1;
                } else {
                    digits = digit ? 1 : 0;
                    mode = 3;
                }
                continue;
            }
            if (mode == 3) {
                if (digit && digits > 0) {
                    digits++;
                    if (digits == 6) {
                        return -2000 - at;
                    }
                    continue;
                }
                digits = 0;
                if ("+-*/%".indexOf(c) >= 0) {
                    mode = 1;
                    continue;
                }
                if (top == '[' && c == ']') {
                    drop(open);
                    continue;
                }
                if (top == 'E' && c == '(') {
                    drop(open);
                    open.append('(');
                    mode = 2;
                    continue;
                }
                if (top == 'L' && "<>=".indexOf(c) >= 0) {
                    drop(open);
                    open.append('R');
                    mode = 1;
                    continue;
                }
                if (top != 'R' || "&|)".indexOf(c) < 0) {
                    return -1000 - at;
                }
                drop(open);
                endPiece(open);
                mode = 4;
            }
            if (mode == 4) {
                if (c == '&' || c == '|') {
                    mode = 2;
                } else if (c == ')') {
                    drop(open);
                    if (open.length() == 0) {
                        mode = 5;
                    } else {
                        endPiece(open);
                    }
                } else {
                    return -1000 - at;
                }
                continue;
            }
            if (mode == 5) {
                if (c != ';') {
                    return -1000 - at;
                }
                mode = 0;
            }
        }
        return mode == 5 ? 0 : -1000 - t.length();
    }

    private static void drop(StringBuilder open) {
        open.setLength(open.length() - 1);
    }

    private static void endPiece(StringBuilder open) {
        while (open.length() > 0 && open.charAt(open.length() - 1) == '!') {
            drop(open);
        }
    }

    private static int depth(StringBuilder open) {
        int n = 0;
        for (int i = 0; i < open.length(); i++) {
            if ("([!".indexOf(open.charAt(i)) >= 0) {
                n++;
            }
        }
        return n;
    }

    int clauses() {
        return law.isEmpty() ? 0 : law.split(";").length;
    }

    /** Reads a right text and reckons it in the same go. */
    private static final class Reading {
        final String t;
        final int[] values;
        int at = 0;

        Reading(String t, int[] values) {
            this.t = t;
            this.values = values;
        }

        char look() {
            return at < t.length() ? t.charAt(at) : ' ';
        }

        /** With ask false it is only read past. */
        boolean c(boolean ask) {
            boolean any = part(ask);
            while (look() == '|') {
                at++;
                boolean one = part(ask && !any);
                any = any || one;
            }
            return any;
        }

        boolean part(boolean ask) {
            boolean all = piece(ask);
            while (look() == '&') {
                at++;
                boolean one = piece(ask && all);
                all = all && one;
            }
            return all && ask;
        }

        boolean piece(boolean ask) {
            if (look() == '!') {
                at++;
                return !piece(ask);
            }
            if (look() == '(') {
                at++;
                boolean holds = c(ask);
                at++;
                return holds;
            }
            int a = e(ask);
            char sign = look();
            at++;
            int b = e(ask);
            return sign == '<' ? a < b : sign == '>' ? a > b : a == b;
        }

        int e(boolean ask) {
            int sum = term(ask);
            while (look() == '+' || look() == '-') {
                char sign = look();
                at++;
                int b = term(ask);
                sum = sign == '+' ? sum + b : sum - b;
            }
            return sum;
        }

        int term(boolean ask) {
            int product = factor(ask);
            while (look() == '*' || look() == '/' || look() == '%') {
                char sign = look();
                at++;
                int b = factor(ask);
                if (sign == '*') {
                    product *= b;
                } else if (!ask) {
                    product = 0;
                } else if (b == 0) {
                    throw new Refused();
                } else {
                    product = sign == '/' ? product / b : product % b;
                }
            }
            return product;
        }

        int factor(boolean ask) {
            if (look() == '[') {
                at++;
                int v = e(ask);
                at++;
                return v;
            }
            if (Character.isDigit(look())) {
                int from = at;
                while (Character.isDigit(look())) {
                    at++;
                }
                return Integer.parseInt(t.substring(from, at));
            }
            at++;
            return values[LETTERS.indexOf(t.charAt(at - 1))];
        }
    }

    private int says(char letter, int most, int[] values) {
        if (law.isEmpty()) {
            return 0;
        }
        for (String clause : law.split(";")) {
            if (clause.charAt(0) != letter) {
                continue;
            }
            // the first ( of a CLAUSE is that of its C, since an E has none
            int opening = clause.indexOf('(');
            boolean holds;
            try {
                holds = new Reading(clause.substring(opening + 1, clause.length() - 1), values).c(true);
            } catch (Refused r) {
                holds = false;
            }
            if (!holds) {
                continue;
            }
            int worth;
            try {
                worth = new Reading(clause.substring(1, opening), values).e(true);
            } catch (Refused r) {
                worth = 0;
            }
            return worth < 0 ? 0 : worth > most ? most : worth;
        }
        return 0;
    }

    // ---- the lake

    static boolean there(int x, int y) {
        return x >= 0 && x < 16 && y >= 0 && y < 16;
    }

    Hole openAt(int x, int y) {
        for (Hole h : holes) {
            if (h.open && h.x == x && h.y == y) {
                return h;
            }
        }
        return null;
    }

    boolean firm(int x, int y) {
        return there(x, y) && !broken[y][x] && openAt(x, y) == null;
    }

    boolean peopled(int x, int y) {
        for (Group g : groups) {
            if (!g.drowned && g.x == x && g.y == y) {
                return true;
            }
        }
        return false;
    }

    int gaps(int x, int y) {
        int n = 0;
        for (int v = y - 1; v <= y + 1; v++) {
            for (int u = x - 1; u <= x + 1; u++) {
                if (there(u, v) && (u != x || v != y) && (broken[v][u] || openAt(u, v) != null)) {
                    n++;
                }
            }
        }
        return n;
    }

    int warmth(int x, int y) {
        int sum = 0;
        for (Hole h : holes) {
            if (h.open && Math.abs(h.x - x) <= 1 && Math.abs(h.y - y) <= 1) {
                sum += h.heat;
            }
        }
        return sum;
    }

    int carries(int x, int y) {
        int sum = 0;
        for (Group g : groups) {
            if (!g.drowned && g.x == x && g.y == y) {
                sum += g.weight;
            }
        }
        return sum;
    }

    private int[] valuesAt(int x, int y, int kind) {
        return new int[] {thick[y][x], gaps(x, y), warmth(x, y), x, y, minute, kind, 0, 0, 0, 0, 0};
    }

    private int kindAt(int x, int y) {
        Hole h = openAt(x, y);
        return h == null ? 9 : h.kind;
    }

    int bears(int x, int y) {
        return says('b', 9999, valuesAt(x, y, kindAt(x, y)));
    }

    int thaws(int x, int y) {
        return says('t', 9, valuesAt(x, y, kindAt(x, y)));
    }

    boolean lets(int x, int y, int kind) {
        return says('c', 1, valuesAt(x, y, kind)) > 0;
    }

    int pull(Hole h, Group g) {
        int[] v = valuesAt(h.x, h.y, h.kind);
        v[7] = h.smell;
        v[8] = h.price;
        v[9] = Math.abs(h.x - g.x) + Math.abs(h.y - g.y);
        v[10] = g.weight;
        for (Group o : groups) {
            if (!o.drowned && Math.abs(h.x - o.x) + Math.abs(h.y - o.y) <= 1) {
                v[11]++;
            }
        }
        return says('g', 999, v);
    }

    int strongest(Group g) {
        int best = -1;
        for (int h = 0; h < holes.size(); h++) {
            if (!holes.get(h).open || pull(holes.get(h), g) == 0) {
                continue;
            }
            if (best < 0 || pull(holes.get(h), g) > pull(holes.get(best), g)) {
                best = h;
            }
        }
        return best;
    }

    /** Whether points hold a row: all threes in all orders, by all steps. */
    static boolean anyRow(List<int[]> points) {
        for (int[] p : points) {
            for (int dx = -3; dx <= 3; dx++) {
                for (int dy = -3; dy <= 3; dy++) {
                    if ((dx != 0 || dy != 0) && in(points, p[0] + dx, p[1] + dy)
                            && in(points, p[0] + 2 * dx, p[1] + 2 * dy)) {
                        return true;
                    }
                }
            }
        }
        return false;
    }

    private static boolean in(List<int[]> points, int x, int y) {
        for (int[] p : points) {
            if (p[0] == x && p[1] == y) {
                return true;
            }
        }
        return false;
    }

    private List<int[]> openPoints() {
        List<int[]> points = new ArrayList<>();
        for (Hole h : holes) {
            if (h.open) {
                points.add(new int[] {h.x, h.y});
            }
        }
        return points;
    }

    boolean rowWith(int x, int y) {
        List<int[]> points = openPoints();
        points.add(new int[] {x, y});
        return anyRow(points);
    }

    int settle() {
        return settled();
    }

    int settled() {
        int fell = 0;
        while (true) {
            List<int[]> over = new ArrayList<>();
            for (int y = 0; y < 16; y++) {
                for (int x = 0; x < 16; x++) {
                    if (firm(x, y) && carries(x, y) > bears(x, y)) {
                        over.add(new int[] {x, y});
                    }
                }
            }
            if (over.isEmpty()) {
                return fell;
            }
            for (int[] p : over) {
                breakAt(p[0], p[1]);
            }
            fell += over.size();
        }
    }

    void breakAt(int x, int y) {
        broken[y][x] = true;
        for (Group g : groups) {
            if (g.x == x && g.y == y) {
                g.drowned = true;
            }
        }
    }

    private void thawAll() {
        int[][] less = new int[16][16];
        for (int y = 0; y < 16; y++) {
            for (int x = 0; x < 16; x++) {
                less[y][x] = broken[y][x] ? 0 : thaws(x, y);
            }
        }
        for (int y = 0; y < 16; y++) {
            for (int x = 0; x < 16; x++) {
                thick[y][x] = Math.max(0, thick[y][x] - less[y][x]);
            }
        }
    }

    private void aMinute() {
        thawAll();
        for (Group g : groups) {
            int best = g.drowned ? -1 : strongest(g);
            if (best < 0) {
                continue;
            }
            Hole h = holes.get(best);
            if (Math.abs(h.x - g.x) + Math.abs(h.y - g.y) <= 1) {
                continue;
            }
            int nx = g.x + (h.x > g.x ? 1 : -1);
            int ny = g.y + (h.y > g.y ? 1 : -1);
            if (h.x != g.x && firm(nx, g.y)) {
                g.x = nx;
            } else if (h.y != g.y && firm(g.x, ny)) {
                g.y = ny;
            }
        }
        settled();
        minute++;
    }

    int drownedCount() {
        int n = 0;
        for (Group g : groups) {
            n += g.drowned ? 1 : 0;
        }
        return n;
    }

    int brokenCount() {
        int n = 0;
        for (boolean[] row : broken) {
            for (boolean b : row) {
                n += b ? 1 : 0;
            }
        }
        return n;
    }

    private int squareOf(Group g) {
        return g.drowned ? -2 : 16 * g.y + g.x;
    }

    private Hole hole(int n) {
        return n >= 0 && n < holes.size() ? holes.get(n) : null;
    }

    private Group groupOf(int n) {
        return n >= 0 && n < groups.size() ? groups.get(n) : null;
    }

    // ---- the face

    int ice(int x, int y, int t) {
        if (!there(x, y) || t < 0 || t > 99) {
            return 0;
        }
        thick[y][x] = t;
        broken[y][x] = false;
        return 1;
    }

    int feed(int[] five) {
        if (tape.size() > 200) {
            return -1;
        }
        for (int v : five) {
            tape.add(v >>> 24);
            tape.add(v >>> 16 & 255);
            tape.add(v >>> 8 & 255);
            tape.add(v & 255);
        }
        return tape.size();
    }

    int law(int n) {
        if (n < 1 || n > 200 || n > tape.size()) {
            return -1;
        }
        StringBuilder t = new StringBuilder();
        for (int i = 0; i < n; i++) {
            t.append((char) (int) tape.get(i));
        }
        tape.clear();
        int fault = fault(t.toString());
        if (fault != 0) {
            return fault;
        }
        law = t.toString();
        return clauses();
    }

    int cut(int x, int y, int kind, int heat, int smell, int price) {
        if (!there(x, y) || kind < 0 || kind > 4 || heat < 0 || heat > 9 || smell < 0 || smell > 9
                || price < 0 || price > 9 || !firm(x, y) || peopled(x, y) || holes.size() == 12) {
            return -1;
        }
        if (!lets(x, y, kind)) {
            return -2;
        }
        if (rowWith(x, y)) {
            return -3;
        }
        Hole h = new Hole();
        h.x = x;
        h.y = y;
        h.kind = kind;
        h.heat = heat;
        h.smell = smell;
        h.price = price;
        holes.add(h);
        return holes.size() - 1;
    }

    int shut(int n) {
        Hole h = hole(n);
        if (h == null || !h.open) {
            return 0;
        }
        h.open = false;
        return 1;
    }

    int group(int x, int y, int weight) {
        if (!firm(x, y) || weight < 1 || weight > 99 || groups.size() == 8) {
            return -1;
        }
        Group g = new Group();
        g.x = x;
        g.y = y;
        g.weight = weight;
        groups.add(g);
        return groups.size() - 1;
    }

    int minutes(int n) {
        if (n < 1 || n > 60) {
            return -1;
        }
        int before = drownedCount();
        for (int i = 0; i < n; i++) {
            aMinute();
        }
        return drownedCount() - before;
    }

    int run(int n, int what) {
        if (n < 1 || n > 60 || what != 0 && what != 1 && (what < 10 || what >= 10 + groups.size())) {
            return -1;
        }
        Model m = copy();
        int drowned = m.minutes(n);
        return what == 0 ? drowned : what == 1 ? m.brokenCount() : squareOf(m.groups.get(what - 10));
    }

    int square(int x, int y, int what) {
        if (!there(x, y)) {
            return -1;
        }
        switch (what) {
            case 0: return thick[y][x];
            case 1: return broken[y][x] ? 1 : openAt(x, y) != null ? 2 : 0;
            case 2: return bears(x, y);
            case 3: return carries(x, y);
            case 4: return gaps(x, y);
            case 5: return warmth(x, y);
            default: return -1;
        }
    }

    int holeIs(int n, int what) {
        Hole h = hole(n);
        if (h == null) {
            return -1;
        }
        int[] of = {16 * h.y + h.x, h.open ? 1 : 0, h.kind, h.heat, h.smell, h.price};
        return what < 0 || what > 5 ? -1 : of[what];
    }

    int groupIs(int n, int what) {
        Group g = groupOf(n);
        if (g == null) {
            return -1;
        }
        return what == 0 ? squareOf(g) : what == 1 ? g.weight : what == 2 && !g.drowned ? strongest(g) : -1;
    }

    int draws(int h, int g) {
        if (hole(h) == null || !hole(h).open || groupOf(g) == null || groupOf(g).drowned) {
            return -1;
        }
        return pull(hole(h), groupOf(g));
    }

    int sound(int n, int load) {
        if (hole(n) == null || !hole(n).open || load < 0 || load > 9999) {
            return -1;
        }
        Model m = copy();
        for (int t = 0; t < 60; t++) {
            if (!m.soundNow(hole(n), load)) {
                return t;
            }
            m.thawAll();
            m.minute++;
        }
        return 60;
    }

    private boolean soundNow(Hole h, int load) {
        for (int y = h.y - 1; y <= h.y + 1; y++) {
            for (int x = h.x - 1; x <= h.x + 1; x++) {
                if ((x != h.x || y != h.y) && firm(x, y) && bears(x, y) < load) {
                    return false;
                }
            }
        }
        return true;
    }

    private List<int[]> pairs(int n) {
        List<int[]> told = new ArrayList<>();
        for (int i = 0; i < n; i++) {
            told.add(new int[] {tape.get(2 * i) % 16, tape.get(2 * i) / 16, tape.get(2 * i + 1)});
        }
        tape.clear();
        return told;
    }

    private static boolean twice(List<int[]> told) {
        Set<Integer> seen = new HashSet<>();
        for (int[] p : told) {
            if (!seen.add(16 * p[1] + p[0])) {
                return true;
            }
        }
        return false;
    }

    int places(int n, int what) {
        if (n < 1 || n > 10 || what != -1 && what != 1 || tape.size() < 2 * n) {
            return -3;
        }
        List<int[]> told = pairs(n);
        if (twice(told)) {
            return -2;
        }
        boolean[] can = new boolean[n];
        for (int i = 0; i < n; i++) {
            int[] p = told.get(i);
            can[i] = firm(p[0], p[1]) && !peopled(p[0], p[1]) && lets(p[0], p[1], 0);
        }
        int best = 0;
        int bestWorth = 0;
        for (int set = 0; set < 1 << n; set++) {
            int worth = 0;
            for (int i = 0; i < n; i++) {
                worth += (set >> i & 1) * told.get(i)[2];
            }
            boolean better = worth > bestWorth
                    || worth == bestWorth && Integer.bitCount(set) < Integer.bitCount(best);
            if (better && fine(set, told, can)) {
                best = set;
                bestWorth = worth;
            }
        }
        return what == 1 ? best : bestWorth;
    }

    private boolean fine(int set, List<int[]> told, boolean[] can) {
        List<int[]> points = openPoints();
        for (int i = 0; i < told.size(); i++) {
            if ((set >> i & 1) == 0) {
                continue;
            }
            if (!can[i]) {
                return false;
            }
            for (int[] p : points) {
                if (Math.abs(p[0] - told.get(i)[0]) <= 1 && Math.abs(p[1] - told.get(i)[1]) <= 1) {
                    return false;
                }
            }
            points.add(told.get(i));
        }
        return !anyRow(points);
    }

    int closing(int bits, int load, int what) {
        List<Integer> asked = new ArrayList<>();
        boolean shut = false;
        for (int b = 0; b < 32; b++) {
            if ((bits >>> b & 1) == 1) {
                if (hole(b) == null) {
                    return -3;
                }
                shut = shut || !hole(b).open;
                asked.add(b);
            }
        }
        if (asked.isEmpty() || asked.size() > 8 || load < 0 || load > 9999 || what < -1 || what >= asked.size()) {
            return -3;
        }
        if (shut) {
            return -2;
        }
        int[] sounds = new int[12];
        for (int h : asked) {
            sounds[h] = sound(h, load);
        }
        bestCost = Integer.MAX_VALUE;
        bestRow = null;
        tryRows(asked, sounds, new ArrayList<>(), 0, 0);
        return what == -1 ? bestCost : bestRow.get(what);
    }

    private int bestCost;
    private List<Integer> bestRow;

    /** All rows, the least first, so that the first of least cost is the least. */
    private void tryRows(List<Integer> asked, int[] sounds, List<Integer> row, int time, int cost) {
        if (row.size() == asked.size()) {
            if (cost < bestCost) {
                bestCost = cost;
                bestRow = new ArrayList<>(row);
            }
            return;
        }
        for (int h : asked) {
            if (row.contains(h)) {
                continue;
            }
            int end = time + 1 + holes.get(h).kind;
            row.add(h);
            tryRows(asked, sounds, row, end, cost + (end > sounds[h] ? 10 + 5 * holes.get(h).heat : 0));
            row.remove(row.size() - 1);
        }
    }

    /** Rows of squares by rounds: after round k each square has its best row of at most k steps. */
    int rescue(int from, int to, int weight, int what) {
        if (from < 0 || from > 255 || to < 0 || to > 255 || weight < 1 || weight > 9999) {
            return -3;
        }
        // no way can have a place beyond 255, whatever the ice is like
        if (what < -1 || what > 255 && what != 500) {
            return -3;
        }
        int[] plank = new int[256];
        for (int s = 0; s < 256; s++) {
            int b = bears(s % 16, s / 16);
            plank[s] = !firm(s % 16, s / 16) || b + 100 < weight ? -1 : b < weight ? 1 : 0;
        }
        if (plank[from] < 0 || plank[to] < 0) {
            return -2;
        }
        // a row from a square to the last one: planks, then the squares
        int[][] best = new int[256][];
        best[to] = new int[] {plank[to], to};
        boolean changed = true;
        while (changed) {
            changed = false;
            for (int s = 0; s < 256; s++) {
                int[][] sides = {{0, -1}, {-1, 0}, {1, 0}, {0, 1}};
                for (int[] d : sides) {
                    int x = s % 16 + d[0];
                    int y = s / 16 + d[1];
                    if (plank[s] < 0 || !there(x, y) || best[16 * y + x] == null) {
                        continue;
                    }
                    int[] behind = best[16 * y + x];
                    int[] row = new int[behind.length + 1];
                    row[0] = behind[0] + plank[s];
                    row[1] = s;
                    System.arraycopy(behind, 1, row, 2, behind.length - 1);
                    if (best[s] == null || less(row, best[s])) {
                        best[s] = row;
                        changed = true;
                    }
                }
            }
        }
        int[] row = best[from];
        if (row == null) {
            return -2;
        }
        if (what == -1) {
            return row[0];
        }
        if (what == 500) {
            return row.length - 2;
        }
        return what + 1 < row.length ? row[what + 1] : -3;
    }

    private static boolean less(int[] a, int[] b) {
        if (a[0] != b[0]) {
            return a[0] < b[0];
        }
        if (a.length != b.length) {
            return a.length < b.length;
        }
        return java.util.Arrays.compare(a, b) < 0;
    }

    int began(int n, int what) {
        if (n < 1 || n > 40 || what != 0 && what != 1 || tape.size() < n) {
            return -3;
        }
        Set<Integer> told = new HashSet<>();
        boolean wrong = false;
        for (int i = 0; i < n; i++) {
            int s = tape.get(i);
            wrong = wrong || !told.add(s) || !firm(s % 16, s / 16);
        }
        tape.clear();
        if (wrong) {
            return -2;
        }
        int many = 0;
        int lowest = -1;
        for (int s = 0; s < 256; s++) {
            if (!firm(s % 16, s / 16)) {
                continue;
            }
            Model m = copy();
            m.breakAt(s % 16, s / 16);
            m.settled();
            Set<Integer> more = new HashSet<>();
            for (int q = 0; q < 256; q++) {
                if (m.broken[q / 16][q % 16] && !broken[q / 16][q % 16]) {
                    more.add(q);
                }
            }
            if (more.equals(told)) {
                many++;
                lowest = lowest < 0 ? s : lowest;
            }
        }
        return what == 0 ? many : lowest;
    }

    int fee(int n, int load, int what) {
        if (n < 1 || n > 10 || load < 0 || load > 9999 || what < -1 || what >= n || tape.size() < 2 * n) {
            return -3;
        }
        List<int[]> told = pairs(n);
        boolean wrong = twice(told);
        for (int[] p : told) {
            wrong = wrong || !firm(p[0], p[1]);
        }
        if (wrong) {
            return -2;
        }
        int best = -1;
        for (int[] p : told) {
            if (bears(p[0], p[1]) >= load) {
                best = Math.max(best, p[2]);
            }
        }
        int all = 0;
        int[] fees = new int[n];
        for (int i = 0; i < n; i++) {
            int[] p = told.get(i);
            if (bears(p[0], p[1]) < load) {
                fees[i] = best < 0 ? p[2] : Math.max(0, p[2] - best);
            }
            all += fees[i];
        }
        return what == -1 ? all : fees[what];
    }

    int row(int x, int y) {
        return !there(x, y) ? -1 : rowWith(x, y) ? 1 : 0;
    }

    int seed(int v) {
        if (v < 0 || v > 65535) {
            return 0;
        }
        x = v;
        return 1;
    }

    int draw(int n) {
        if (n < 1 || n > 60) {
            return -1;
        }
        int before = drownedCount();
        for (int i = 0; i < n; i++) {
            x = (int) ((25173L * x + 13849L) % 65536L);
            Group g = groupOf(x % 8);
            int[][] steps = {{0, 1}, {1, 0}, {0, -1}, {-1, 0}};
            int[] d = steps[x / 8 % 4];
            if (g != null && !g.drowned && firm(g.x + d[0], g.y + d[1])) {
                g.x += d[0];
                g.y += d[1];
            }
            aMinute();
        }
        return drownedCount() - before;
    }

    int keep() {
        kept = copy();
        return brokenCount();
    }

    int undo() {
        if (kept == null) {
            return 0;
        }
        takeLake(kept);
        return 1;
    }

    int check(int y, int n) {
        if (y < 0 || y > 15 || n < 0 || n > 16 || tape.size() < 4 * n) {
            return -2;
        }
        List<Integer> bytes = new ArrayList<>(tape);
        tape.clear();
        for (int i = 0; i < n; i++) {
            int v = 0;
            for (int b = 0; b < 4; b++) {
                v = v * 256 + bytes.get(4 * i + b);
            }
            if (v != seen(i, y)) {
                return i;
            }
        }
        return -1;
    }

    int seen(int x, int y) {
        return broken[y][x] ? -1 : openAt(x, y) != null ? -2 : thick[y][x];
    }

    int count(int what) {
        int[] of = {minute, holes.size(), groups.size(), clauses(), tape.size(), x, brokenCount(), drownedCount()};
        return what < 0 || what > 7 ? -1 : of[what];
    }
}
