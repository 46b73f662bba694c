/** The sentences about THE LAW that name a bound: the last that can stand, the first that can't. */
public final class EdgeLawTest extends Bench {
    // 46340 * 46340 + 88047 is the greatest int
    private static final String GREATEST = "[46340*46340+88047]";
    private static final String LEAST = "[46340*46340+88048]";

    public static void main(String[] args) {
        lengthOfText();
        noBlanks();
        everySignEverywhere();
        noneAtFirst();
        fourteenClauses();
        signBetweenClauses();
        firstThatHolds();
        boundsOfB();
        boundsOfT();
        boundsOfC();
        boundsOfG();
        partsAndPieces();
        termsFromTheLeft();
        digits();
        lettersOfSquares();
        lettersOfHoles();
        lettersOfKinds();
        lettersElseZero();
        nearGroups();
        thirtyTwoBits();
        dividedByZero();
        asMuchAsMatters();
        misplaced();
        firstFromTheLeft();
        openInOneAnother();
        textBeforeStays();
        oneBehindAnother();
        end();
    }

    private static void b(String text, int want) {
        due("b of " + text, with(text).square(3, 5, 2), want);
    }

    private static void fault(String text, int number, int place) {
        due("fault of " + text, law(new HoleFair(), text), -1000 * number - place);
    }

    private static void stands(String text, int clauses) {
        due("clauses of " + text, law(new HoleFair(), text), clauses);
    }

    private static String times(String part, int n) {
        return part.repeat(n);
    }

    private static void lengthOfText() {
        about("a TEXT of at most 200 bytes");
        // 3 + 192 + 5 bytes
        String full = "b10" + times("+1", 96) + "(1=1)";
        due("the text's own length", full.length(), 200);
        HoleFair f = new HoleFair();
        feedText(f, full);
        due("200 of 200", f.law(200), 1);
        due("it is the law", f.square(0, 0, 2), 106);
        feedText(f, full + "   ");
        due("201 of 220", f.law(201), -1);
        due("the tape stays", f.count(4), 220);
        due("200 of 220", f.law(200), 1);
        due("empty then", f.count(4), 0);
        feedText(f, "b11" + times("+1", 96) + "0(1=1)");
        due("200 of a text of 201: its end is missed", f.law(200), -1200);
        due("the text before stays", f.square(0, 0, 2), 106);
        feedText(f, full);
        due("199: its end is missed", f.law(199), -1199);
        feedText(f, "b");
        due("a text of 1 byte", f.law(1), -1001);
        feedText(f, "b");
        due("no text of 0", f.law(0), -1);
        due("nor of less", f.law(-1), -1);
        due("nor of far less", f.law(Integer.MIN_VALUE), -1);
        due("nor of far more", f.law(Integer.MAX_VALUE), -1);
        due("20 bytes are not 21", f.law(21), -1);
        due("the tape stays by all of them", f.count(4), 20);
        due("20 bytes are 20", f.law(20), -1001);
    }

    private static void noBlanks() {
        about("no blanks");
        String text = "b12+i*[3-x](1<2&!(x=1|y>2));t1(1=1)";
        stands(text, 2);
        for (int at = 0; at <= text.length(); at++) {
            fault(text.substring(0, at) + " " + text.substring(at), 1, at);
        }
    }

    /** Every byte in place of every sign of a text, against the model's automaton. */
    private static void everySignEverywhere() {
        about("FAULTS, the first from the left");
        String text = "g1+w*[d-2](!(s<2&x=1)|p>34567);c1(1=1)";
        HoleFair f = new HoleFair();
        for (int at = 0; at < text.length(); at++) {
            for (int sign = 0; sign < 256; sign++) {
                f = sign % 64 == 0 ? new HoleFair() : f;
                String changed = text.substring(0, at) + (char) sign + text.substring(at + 1);
                int fault = Model.fault(changed);
                int want = fault == 0 ? 2 : fault;
                due("sign " + sign + " at " + at, law(f, changed), want);
            }
        }
    }

    private static void noneAtFirst() {
        about("(none at first)");
        HoleFair f = new HoleFair();
        due("clauses", f.count(3), 0);
        due("bears", f.square(0, 0, 2), 0);
        due("cut", f.cut(0, 0, 0, 0, 0, 0), -2);
        f.minutes(60);
        due("no thaw", f.square(0, 0, 0), 50);
        law(f, "c1(1=1)");
        f.cut(0, 0, 0, 0, 0, 0);
        f.group(9, 0, 1);
        due("draws by none", f.draws(0, 0), 0);
    }

    private static void fourteenClauses() {
        about("CLAUSES (14 at most); 4 a 15th CLAUSE, at its letter (if that can stand there)");
        String one = "b1(1=1)";
        stands(one, 1);
        String thirteen = times(one + ";", 12) + one;
        stands(thirteen, 13);
        stands(thirteen + ";" + one, 14);
        String fourteen = times(one + ";", 14);
        for (char letter : new char[] {'b', 't', 'c', 'g'}) {
            fault(fourteen + letter, 4, 112);
            fault(fourteen + letter + "1(1=1)", 4, 112);
        }
        for (char letter : new char[] {'a', 'i', 'x', '1', ';', '(', ')', ' '}) {
            fault(fourteen + letter, 1, 112);
        }
        fault(fourteen, 1, 112);
        fault(thirteen + ";" + one + ")", 1, 111);
        HoleFair f = new HoleFair();
        StringBuilder each = new StringBuilder("b0(x=0)");
        for (int i = 1; i < 14; i++) {
            each.append(";b").append(i + 20).append("(x=").append(i).append(')');
        }
        due("fourteen", law(f, each.toString()), 14);
        due("counted", f.count(3), 14);
        due("the fourteenth is one", f.square(13, 0, 2), 33);
        due("a fifteenth", law(f, fourteen + "b1(1=1)"), -4112);
        due("the fourteen stay", f.count(3), 14);
        due("the fourteenth stays", f.square(13, 0, 2), 33);
    }

    private static void signBetweenClauses() {
        about("with a ; (59) between two");
        stands("b1(1=1);t1(1=1)", 2);
        fault(";b1(1=1)", 1, 0);
        fault("b1(1=1);", 1, 8);
        fault("b1(1=1);;t1(1=1)", 1, 8);
        fault("b1(1=1)t1(1=1)", 1, 7);
        fault("b1(1=1):t1(1=1)", 1, 7);
        fault("b1(1=1),t1(1=1)", 1, 7);
    }

    private static void firstThatHolds() {
        about("of the first one of a letter whose C holds the E (none: 0)");
        b("b5(1=1);b6(1=1)", 5);
        b("b5(1=2);b6(1=1);b7(1=1)", 6);
        b("b5(1=2);b6(1=2)", 0);
        b("t5(1=1);g6(1=1);c7(1=1)", 0);
        b("t5(1=1);b6(1=1);g7(1=1)", 6);
        b("b0(1=1);b7(1=1)", 0);
        b("b0-1(1=1);b7(1=1)", 0);
        // one behind it is not asked
        b("b5(1=1);b1/0(1=1)", 5);
        b("b5(1=1);b7(1/0=1)", 5);
        b("b5(1=1);t1/0(1=1)", 5);
    }

    private static void boundsOfB() {
        about("beyond its bounds the bound: b (0 to 9999)");
        b("b9998(1=1)", 9998);
        b("b9999(1=1)", 9999);
        b("b10000(1=1)", 9999);
        b("b99999(1=1)", 9999);
        b("b" + GREATEST + "(1=1)", 9999);
        b("b1(1=1)", 1);
        b("b0(1=1)", 0);
        b("b0-1(1=1)", 0);
        b("b" + LEAST + "(1=1)", 0);
    }

    private static void t(String text, int want) {
        HoleFair f = with(text);
        f.minutes(1);
        due("less thick by " + text, 50 - f.square(3, 5, 0), want);
    }

    private static void boundsOfT() {
        about("beyond its bounds the bound: t (0 to 9)");
        t("t8(1=1)", 8);
        t("t9(1=1)", 9);
        t("t10(1=1)", 9);
        t("t" + GREATEST + "(1=1)", 9);
        t("t1(1=1)", 1);
        t("t0(1=1)", 0);
        t("t0-1(1=1)", 0);
        t("t" + LEAST + "(1=1)", 0);
        t("t1(1=2)", 0);
    }

    private static void c(String text, int want) {
        HoleFair f = with(text);
        due("cut by " + text, f.cut(3, 5, 0, 0, 0, 0), want);
        feed(f, 160, 9);
        due("place by " + text, f.places(1, 1), want == 0 ? 1 : 0);
    }

    private static void boundsOfC() {
        about("c whether a HOLE may be cut there (above 0; 0 to 1)");
        c("c1(1=1)", 0);
        c("c2(1=1)", 0);
        c("c" + GREATEST + "(1=1)", 0);
        c("c0(1=1)", -2);
        c("c0-1(1=1)", -2);
        c("c" + LEAST + "(1=1)", -2);
        c("c1(1=2)", -2);
        c("c0(1=1);c1(1=1)", -2);
    }

    private static void g(String text, int want) {
        HoleFair f = with("c1(1=1)");
        f.cut(3, 5, 0, 0, 0, 0);
        f.group(9, 5, 1);
        law(f, text);
        due("drawn by " + text, f.draws(0, 0), want);
        due("drawn most by " + text, f.groupIs(0, 2), want > 0 ? 0 : -1);
    }

    private static void boundsOfG() {
        about("beyond its bounds the bound: g (0 to 999)");
        g("g998(1=1)", 998);
        g("g999(1=1)", 999);
        g("g1000(1=1)", 999);
        g("g" + GREATEST + "(1=1)", 999);
        g("g1(1=1)", 1);
        g("g0(1=1)", 0);
        g("g0-1(1=1)", 0);
        g("g" + LEAST + "(1=1)", 0);
        g("g1(1=2)", 0);
        HoleFair f = with("c1(1=1);g998+k(1=1)");
        f.cut(3, 5, 1, 0, 0, 0);
        f.cut(5, 8, 4, 0, 0, 0);
        f.group(9, 5, 1);
        due("beyond the bound they draw alike, so the lowest", f.groupIs(0, 2), 0);
    }

    private static void partsAndPieces() {
        about("C: PARTS with a | between two, one of which must hold; PIECES with an & between two, all must");
        String yes = "1=1";
        String no = "1=2";
        for (int bits = 0; bits < 64; bits++) {
            boolean[] holds = new boolean[6];
            String[] s = new String[6];
            for (int i = 0; i < 6; i++) {
                holds[i] = (bits >> i & 1) != 0;
                s[i] = holds[i] ? yes : no;
            }
            boolean flat = holds[0] && holds[1] || holds[2] && holds[3] && holds[4] || holds[5];
            b("b1(" + s[0] + "&" + s[1] + "|" + s[2] + "&" + s[3] + "&" + s[4] + "|" + s[5] + ")", flat ? 1 : 0);
            boolean deep = (holds[0] || holds[1]) && !(holds[2] && !holds[3]) || !holds[4] && holds[5];
            b("b1((" + s[0] + "|" + s[1] + ")&!(" + s[2] + "&!" + s[3] + ")|!" + s[4] + "&" + s[5] + ")",
                    deep ? 1 : 0);
        }
        about("a PIECE: E, one of < > =, and E");
        b("b1(2<3)", 1);
        b("b1(3<3)", 0);
        b("b1(4<3)", 0);
        b("b1(2>3)", 0);
        b("b1(3>3)", 0);
        b("b1(4>3)", 1);
        b("b1(2=3)", 0);
        b("b1(3=3)", 1);
        b("b1(4=3)", 0);
        for (String holds : new String[] {"2<3", "3>2", "3=3"}) {
            b("b1(!" + holds + ")", 0);
            b("b1(!!" + holds + ")", 1);
            b("b1(!(" + holds + ")|!" + holds + ")", 0);
            b("b1(" + holds + "&!!" + holds + ")", 1);
        }
        for (String holdsNot : new String[] {"3<2", "2<2", "2>3", "3>3", "2=3"}) {
            b("b1(!" + holdsNot + ")", 1);
            b("b1(!!" + holdsNot + ")", 0);
            b("b1(!(" + holdsNot + ")&!" + holdsNot + ")", 1);
            b("b1(" + holdsNot + "|!!" + holdsNot + ")", 0);
        }
        b("b1(1+2*3=7)", 1);
        b("b1(7=1+2*3)", 1);
        b("b1(!1+1=3)", 1);
        b("b1(!!1+1=2)", 1);
        b("b1(!!!1+1=2)", 0);
    }

    private static void termsFromTheLeft() {
        about("TERMS with + or - between two; FACTORS with one of * / % between two; from the left on");
        b("b90-8-3(1=1)", 79);
        b("b90-8+3(1=1)", 85);
        b("b90/8/3(1=1)", 3);
        b("b90/8*3(1=1)", 33);
        b("b90*8/3(1=1)", 240);
        b("b90%8*3(1=1)", 6);
        b("b90*8%7(1=1)", 6);
        b("b90%50%7(1=1)", 5);
        b("b90-8*3(1=1)", 66);
        b("b90-[8-3](1=1)", 85);
        b("b90/[8/3](1=1)", 45);
        b("b2*[3+4]*[5+6](1=1)", 154);
        b("b2+3*4+5*6-7%4(1=1)", 41);
        b("b[[[[[[7]]]]]](1=1)", 7);
    }

    private static void digits() {
        about("a number of one to five digits; 2 a sixth digit, at it");
        b("b0(1=1)", 0);
        b("b9(1=1)", 9);
        b("b00000(1=1)", 0);
        b("b00009(1=1)", 9);
        b("b99999/11(1=1)", 9090);
        b("b1(99999=99999)", 1);
        b("b1(99999=99998+1)", 1);
        fault("b000000(1=1)", 2, 6);
        fault("b000009", 2, 6);
        fault("b999999", 2, 6);
        fault("b12345", 1, 6);
        fault("b1234567890", 2, 6);
        fault("b1+123456(1=1)", 2, 8);
        fault("b[123456](1=1)", 2, 7);
        fault("b1(123456=1)", 2, 8);
        fault("b1(1=123456)", 2, 10);
        fault("b1(1=1|!(2<123456))", 2, 16);
        stands("b12345+12345(12345=12345&12345<12345)", 1);
    }

    private static void lettersOfSquares() {
        about("i THICK, n GAPS, h WARMTH of the SQUARE, x, y its place, m THE MINUTE");
        HoleFair f = with("c1(1=1);b99(1=1)");
        f.cut(4, 6, 0, 7, 0, 0);
        f.cut(2, 5, 0, 9, 0, 0);
        f.ice(3, 5, 31);
        f.minutes(4);
        String[] letters = {"i", "n", "h", "x", "y", "m"};
        int[] values = {31, 2, 16, 3, 5, 4};
        for (int i = 0; i < 6; i++) {
            law(f, "b" + letters[i] + "(1=1)");
            due("in b " + letters[i], f.square(3, 5, 2), values[i]);
            f.keep();
            law(f, "c1(" + letters[i] + "=" + (values[i] + 1) + ")");
            due("in c, one more than " + letters[i], f.cut(3, 5, 1, 0, 0, 0), -2);
            law(f, "c1(" + letters[i] + "=" + values[i] + ")");
            due("in c " + letters[i], f.cut(3, 5, 1, 0, 0, 0), 2);
            f.undo();
            law(f, "t" + letters[i] + "(x=3&y=5)");
            f.minutes(1);
            due("in t " + letters[i], f.square(3, 5, 0), Math.max(0, 31 - Math.min(9, values[i])));
            f.undo();
        }
    }

    private static void lettersOfHoles() {
        about("(in g: of the HOLE's); in g: s SMELL, p PRICE, d THE WAY, w the GROUP's WEIGHT");
        HoleFair f = with("c1(1=1);b99(1=1)");
        f.cut(4, 6, 3, 7, 6, 8);
        f.cut(3, 5, 0, 5, 0, 0);
        f.ice(4, 6, 31);
        f.group(12, 1, 44);
        f.minutes(9);
        String[] letters = {"i", "n", "h", "x", "y", "m", "k", "s", "p", "d", "w", "q"};
        int[] values = {31, 1, 12, 4, 6, 9, 3, 6, 8, 13, 44, 0};
        for (int i = 0; i < letters.length; i++) {
            law(f, "g" + letters[i] + "(1=1)");
            due("in g " + letters[i], f.draws(0, 0), values[i]);
            law(f, "g5(" + letters[i] + "=" + values[i] + ")");
            due("in the C of g " + letters[i], f.draws(0, 0), 5);
        }
        about("THE WAY (the differences of x and y without sign, together)");
        int[][] corners = {{0, 0, 15, 15}, {15, 15, 0, 0}, {0, 15, 15, 0}, {15, 0, 0, 15}};
        for (int[] c : corners) {
            f = with("c1(1=1);gd(1=1)");
            f.cut(c[0], c[1], 0, 0, 0, 0);
            f.group(c[2], c[3], 1);
            due("the longest", f.draws(0, 0), 30);
            f.group(c[0] == 0 ? 1 : 14, c[1], 1);
            due("the shortest", f.draws(0, 1), 1);
        }
    }

    private static void lettersOfKinds() {
        about("k the KIND of the HOLE (in c: that it would have; in b, t of an OPEN one there, else 9)");
        for (int kind = 0; kind <= 4; kind++) {
            HoleFair f = with("c1(k=" + kind + ");bk*10(1=1);tk(1=1)");
            due("one less", f.cut(3, 5, (kind + 4) % 5, 0, 0, 0), -2);
            due("one more", f.cut(3, 5, (kind + 1) % 5, 0, 0, 0), -2);
            due("it", f.cut(3, 5, kind, 0, 0, 0), 0);
            due("b of an open one", f.square(3, 5, 2), kind * 10);
            due("b beside it", f.square(3, 6, 2), 90);
            f.minutes(1);
            due("t of an open one", f.square(3, 5, 0), 50 - kind);
            due("t beside it", f.square(3, 6, 0), 41);
            f.shut(0);
            due("b of a shut one", f.square(3, 5, 2), 90);
            f.minutes(1);
            due("t of a shut one", f.square(3, 5, 0), 41 - kind);
            feed(f, 0, 7);
            due("places asks for kind 0", f.places(1, -1), kind == 0 ? 7 : 0);
        }
        HoleFair f = with("c1(1=1);b99(1=1)");
        f.group(3, 5, 1);
        law(f, "b0(1=1);c1(1=1)");
        f.settle();
        law(f, "bk(1=1)");
        due("b where it is broken", f.square(3, 5, 2), 9);
    }

    private static void lettersElseZero() {
        about("(else s p d w q are 0)");
        for (String letter : new String[] {"s", "p", "d", "w", "q"}) {
            HoleFair f = with("c1(" + letter + "=0);b50+" + letter + "(1=1);t3+" + letter + "(1=1);g" + letter
                    + "(1=1)");
            due("in c", f.cut(3, 5, 4, 9, 9, 9), 0);
            f.group(3, 6, 50);
            due("in g it is not 0", f.draws(0, 0) > 0, true);
            due("in b, with a hole and a group", f.square(3, 5, 2), 50);
            due("in b, by a hole and a group", f.square(3, 6, 2), 50);
            due("in b as it settles", f.settle(), 0);
            f.draws(0, 0);
            f.minutes(1);
            due("in t", f.square(3, 6, 0), 47);
            f.draws(0, 0);
            feed(f, 15, 7);
            due("in c of places", f.places(1, -1), 7);
        }
    }

    private static void nearGroups() {
        about("q how many GROUPS (not drowned) are within a WAY of 1 of the HOLE");
        HoleFair f = with("c1(1=1);b90(1=1);gq(1=1)");
        f.cut(5, 5, 0, 0, 0, 0);
        f.group(0, 0, 1);
        due("none is near", f.draws(0, 0), 0);
        int[][] near = {{4, 5}, {6, 5}, {5, 4}, {5, 6}};
        for (int i = 0; i < 4; i++) {
            f.group(near[i][0], near[i][1], 40);
            due("a way of 1", f.draws(0, 0), i + 1);
        }
        f.group(4, 4, 1);
        f.group(7, 5, 1);
        due("a way of 2", f.draws(0, 0), 4);
        f.group(4, 5, 51);
        due("two on one square", f.draws(0, 0), 5);
        f.settle();
        due("both are drowned", f.draws(0, 0), 3);
        f = with("c1(1=1);b99(1=1);gq(1=1)");
        f.cut(5, 5, 0, 0, 0, 0);
        for (int i = 0; i < 8; i++) {
            f.group(5, 6, 1);
        }
        due("all eight", f.draws(0, 7), 8);
    }

    private static void thirtyTwoBits() {
        about("All is reckoned with 32 bits, as the machine does");
        b("b" + GREATEST + "/10000/100(1=1)", 2147);
        b("b[" + GREATEST + "+1]/10000/100+3000(1=1)", 853);
        b("b[0-" + GREATEST + "]/10000/100+3000(1=1)", 853);
        b("b[0-" + GREATEST + "-1]/10000/100+3000(1=1)", 853);
        b("b[0-" + GREATEST + "-2]/10000/100(1=1)", 2147);
        b("b1(" + GREATEST + ">0)", 1);
        b("b1(" + GREATEST + "+1<0)", 1);
        b("b1(" + LEAST + "<0)", 1);
        b("b1(" + LEAST + "-1>0)", 1);
        b("b1(" + LEAST + "<" + GREATEST + ")", 1);
        b("b1(0-" + LEAST + "=" + LEAST + ")", 1);
        b("b1(" + LEAST + "/[0-1]=" + LEAST + ")", 1);
        b("b5+" + LEAST + "%[0-1](1=1)", 5);
        b("b65536*65536+5(1=1)", 5);
        b("b65536*32768/10000/100+3000(1=1)", 853);
        b("b99999*99999/20000/10(1=1)", 7049);
        b("b10+[0-7]/2(1=1)", 7);
        b("b10+[0-7]%2(1=1)", 9);
        b("b10+7/[0-2](1=1)", 7);
        b("b10+7%[0-2](1=1)", 11);
        b("b10+[0-7]/[0-2](1=1)", 13);
        b("b10+[0-7]%[0-2](1=1)", 9);
    }

    private static void dividedByZero() {
        about("what is divided by 0 is REFUSED: then a C does not hold, an E is 0");
        for (String sign : new String[] {"/", "%"}) {
            b("b5" + sign + "1+5(1=1);b2(1=1)", sign.equals("/") ? 10 : 5);
            b("b5" + sign + "0(1=1);b2(1=1)", 0);
            b("b7+5" + sign + "0(1=1);b2(1=1)", 0);
            b("b7+0*[5" + sign + "[x-3]](1=1);b2(1=1)", 0);
            b("b7+0" + sign + "0(1=1)", 0);
            b("b1(5" + sign + "0=0);b2(1=1)", 2);
            b("b1(0=5" + sign + "0);b2(1=1)", 2);
            b("b1(5" + sign + "0<9);b2(1=1)", 2);
            b("b1(!5" + sign + "0=0);b2(1=1)", 2);
            b("b1(!!5" + sign + "0=0);b2(1=1)", 2);
            b("b1(1=1&5" + sign + "0=0);b2(1=1)", 2);
            b("b1(5" + sign + "[0-1]<0|5" + sign + "[0-1]=0);b2(1=1)", 1);
        }
        t("t5/0(1=1);t2(1=1)", 0);
        t("t5(1/0=1);t2(1=1)", 2);
        c("c5/0(1=1);c1(1=1)", -2);
        c("c5(1/0=1);c1(1=1)", 0);
        g("g5/0(1=1);g1(1=1)", 0);
        g("g5(1/0=1);g3(1=1)", 3);
    }

    private static void asMuchAsMatters() {
        about("Of a C as much is asked, from the left, as matters");
        b("b1(1=1|1/0=1);b2(1=1)", 1);
        b("b1(1/0=1|1=1);b2(1=1)", 2);
        b("b1(1=2|1/0=1);b2(1=1)", 2);
        b("b1(1=2&1/0=1|1=1);b2(1=1)", 1);
        b("b1(1/0=1&1=2|1=1);b2(1=1)", 2);
        b("b1(1=1&1=2&1/0=1|1=1);b2(1=1)", 1);
        b("b1(1=1&1=1|1/0=1|1=1);b2(1=1)", 1);
        b("b1(!(1=2&1/0=1));b2(1=1)", 1);
        b("b1((1=1|1/0=1)&1=1);b2(1=1)", 1);
        b("b1((1=1|1/0=1)&1/0=1);b2(1=1)", 2);
        b("b1(1=2&(1=1|1/0=1)|1=1);b2(1=1)", 1);
        b("b1(1=2&!1/0=1|1=1);b2(1=1)", 1);
    }

    private static void misplaced() {
        about("1 what can't stand there (the end, too)");
        String text = "b1+x*[3](!(1<2)&i=5|2>[m]);c1(1=1)";
        stands(text, 2);
        int firstEnd = text.indexOf(';');
        for (int n = 1; n < text.length(); n++) {
            HoleFair f = new HoleFair();
            feedText(f, text);
            due("the end behind " + n, f.law(n), n == firstEnd ? 1 : -1000 - n);
        }
        fault("b()", 1, 1);
        fault("b1()", 1, 3);
        fault("b[](1=1)", 1, 2);
        fault("b1(1=1&)", 1, 7);
        fault("b1(&1=1)", 1, 3);
        fault("b1(1=1|)", 1, 7);
        fault("b1(|1=1)", 1, 3);
        fault("b1(!)", 1, 4);
        fault("b1(1!=1)", 1, 4);
        fault("b1(1=!1)", 1, 5);
        fault("b1(1==1)", 1, 5);
        fault("b1(1<=1)", 1, 5);
        fault("b1(1<1<1)", 1, 6);
        fault("b-1(1=1)", 1, 1);
        fault("b+1(1=1)", 1, 1);
        fault("b1+-1(1=1)", 1, 3);
        fault("b1*/1(1=1)", 1, 3);
        fault("b12x(1=1)", 1, 3);
        fault("bx1(1=1)", 1, 2);
        fault("bxy(1=1)", 1, 2);
        fault("bb(1=1)", 1, 1);
        fault("bI(1=1)", 1, 1);
        fault("b1[1](1=1)", 1, 2);
        fault("b[1]1(1=1)", 1, 4);
        fault("b(1)(1=1)", 1, 1);
        fault("b!1(1=1)", 1, 1);
        fault("b[!1](1=1)", 1, 2);
        fault("b[1=1](1=1)", 1, 3);
        fault("b[1)(1=1)", 1, 3);
        fault("b1(1=1]", 1, 6);
        fault("b1((1=1)", 1, 8);
        fault("b1((1)=1)", 1, 5);
        fault("b1((1=1)=1)", 1, 8);
        fault("b1([1=1])", 1, 5);
        fault("b1(1=1)(1=1)", 1, 7);
    }

    private static void firstFromTheLeft() {
        about("FAULTS, the first from the left");
        fault("b123456(((((((", 2, 6);
        fault("b[[[[[[[123456", 5, 7);
        fault("b1(1=1&((((((123456=1", 5, 12);
        fault("b1(123456=1&((((((1=1", 2, 8);
        fault("x123456", 1, 0);
        fault("b123456;x", 2, 6);
        fault("b1(1=1);x123456", 1, 8);
        fault(times("b1(1=1);", 13) + "b123456;b", 2, 110);
        fault(times("b1(1=1);", 14) + "b123456", 4, 112);
    }

    private static void openInOneAnother() {
        about("5 a seventh of ( [ ! that are open in one another, at it");
        stands("b[[[[[[1]]]]]](1=1)", 1);
        fault("b[[[[[[[1]]]]]]](1=1)", 5, 7);
        stands("b1((((((1=1))))))", 1);
        fault("b1(((((((1=1)))))))", 5, 8);
        stands("b1(!!!!!1=1)", 1);
        fault("b1(!!!!!!1=1)", 5, 8);
        stands("b1([[[[[1]]]]]=[[[[[1]]]]])", 1);
        fault("b1([[[[[[1]]]]]]=1)", 5, 8);
        fault("b1(1=[[[[[[1]]]]]])", 5, 10);
        stands("b1(!(!([1]=1)))", 1);
        fault("b1(!(!([[1]]<2)))", 5, 8);
        fault("b1(!(!(!(1=1))))", 5, 8);
        fault("b1(!(!(![1]=1)))", 5, 8);
        fault("b1(!(!(!!1=1)))", 5, 8);
        about("(the ( of the CLAUSE counts; the E of a CLAUSE stands ahead of it)");
        stands("b[[[[[[1]]]]]]((((((1=1))))))", 1);
        stands("b[[[[[[1]]]]]]+[[[[[[1]]]]]](1=1);b[[[[[[1]]]]]](1=1)", 2);
        fault("b1(1=1);b[[[[[[[1", 5, 15);
        about("(a ! is open till its PIECE ends)");
        stands("b1(!!!!!1=1&!!!!!1=1|!!!!!1=1)", 1);
        stands("b1(!!!!!1=1&[[[[[1]]]]]=1)", 1);
        stands("b1(!!!!!1=1|(((((1=1))))))", 1);
        stands("b1(!!!!(1=1)&!!!!(1=1))", 1);
        stands("b1(!(!(!1=1)&!(1=1)))", 1);
        stands("b1(!!!!1=[1])", 1);
        fault("b1(!!!!!1=[1])", 5, 10);
        stands("b1(!!!![1]=[1])", 1);
        fault("b1(!!!!![1]=1)", 5, 8);
        fault("b1(!!!!(!1=1))", 5, 8);
        stands("b1(!!!!(1=1|2=2))", 1);
        fault("b1(!!!!(1=1|!2=2))", 5, 12);
        fault("b1(!!!!(1=1|2=[2]))", 5, 14);
    }

    private static void textBeforeStays() {
        about("a FAULT: -1000 times its number, less its place (the TEXT before stays)");
        HoleFair f = with("b77(1=1);c1(1=1);t2(1=1);g5(1=1)");
        f.cut(3, 3, 0, 0, 0, 0);
        f.group(9, 9, 1);
        String[] faults = {"x", "b", "b5(1=1);t7(1=1);", "b123456", "b5(1=1);c0(1=1);b[[[[[[[",
            times("b1(1=1);", 14) + "b"};
        int[] due = {-1000, -1001, -1016, -2006, -5023, -4112};
        for (int i = 0; i < faults.length; i++) {
            due("the fault", law(f, faults[i]), due[i]);
            due("empty then", f.count(4), 0);
            due("clauses", f.count(3), 4);
            due("b stays", f.square(0, 0, 2), 77);
            due("g stays", f.draws(0, 0), 5);
            int thick = f.square(0, 0, 0);
            f.minutes(1);
            due("t stays", f.square(0, 0, 0), thick - 2);
            due("c stays", f.cut(2 * i, 15 - i * i % 7, 0, 0, 0, 0), i + 1);
        }
        about("in place of the one before");
        due("another law", law(f, "b5(1=1)"), 1);
        due("clauses", f.count(3), 1);
        due("b", f.square(0, 0, 2), 5);
        due("no g", f.draws(0, 0), 0);
        int thick = f.square(0, 0, 0);
        f.minutes(1);
        due("no t", f.square(0, 0, 0), thick);
        due("no c", f.cut(15, 15, 0, 0, 0, 0), -2);
    }

    private static void oneBehindAnother() {
        about("THE LAW by the first n bytes of the tape, in place of the one before");
        HoleFair f = new HoleFair();
        for (int i = 1; i <= 20; i++) {
            String text = "b" + (10 + i) + times("+1", 95) + "(1=1)";
            due("a long one", law(f, i % 3 == 0 ? text + "x" : text), i % 3 == 0 ? -1198 : 1);
            due("the last that stands", f.square(0, 0, 2), 10 + 95 + (i % 3 == 0 ? i - 1 : i));
        }
        for (int i = 0; i < 14; i++) {
            String text = times("c0(1=2);", i) + "b" + i + "(1=1)";
            due("another", law(f, text), i + 1);
            due("counted", f.count(3), i + 1);
            due("of it", f.square(0, 0, 2), i);
        }
        due("a brief one", law(f, "t1(1=1)"), 1);
        due("nothing is left of the others", f.square(0, 0, 2), 0);
    }
}
