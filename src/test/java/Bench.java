import java.nio.charset.StandardCharsets;

/** What the tests by hand share: held answers, and the tape's bytes, numbers and texts. */
class Bench {
    /** A call on an object; a boolean counts 1 or 0. */
    interface Call {
        long on(HoleFair f);
    }

    private static int wrong = 0;
    private static int asked = 0;
    private static String about = "";

    /** What the answers that follow are about: a promise, or a sentence of the document. */
    static void about(String what) {
        about = what;
    }

    static void due(String what, long got, long want) {
        asked++;
        if (got != want) {
            wrong++;
            System.out.println(about + ", " + what + ": answered " + got + ", due is " + want);
        }
    }

    static void due(String what, boolean got, boolean want) {
        due(what, one(got), one(want));
    }

    static long one(boolean answer) {
        return answer ? 1 : 0;
    }

    /** Tells the sum, and ends with 1 if an answer was not as due. */
    static void end() {
        System.out.println((asked - wrong) + " passed, " + wrong + " failed");
        if (wrong != 0) {
            System.exit(1);
        }
    }

    static void feed(HoleFair f, int... bytes) {
        for (int from = 0; from < bytes.length; from += 20) {
            int[] v = new int[5];
            for (int i = 0; i < 20 && from + i < bytes.length; i++) {
                v[i / 4] |= (bytes[from + i] & 255) << (24 - i % 4 * 8);
            }
            f.feed(v[0], v[1], v[2], v[3], v[4]);
        }
    }

    static void numbers(HoleFair f, int... v) {
        for (int from = 0; from < v.length; from += 5) {
            int[] five = new int[5];
            System.arraycopy(v, from, five, 0, Math.min(5, v.length - from));
            f.feed(five[0], five[1], five[2], five[3], five[4]);
        }
    }

    static void feedText(HoleFair f, String text) {
        byte[] bytes = text.getBytes(StandardCharsets.ISO_8859_1);
        int[] v = new int[bytes.length];
        for (int i = 0; i < v.length; i++) {
            v[i] = bytes[i];
        }
        feed(f, v);
    }

    static int law(HoleFair f, String text) {
        feedText(f, text);
        return f.law(text.length());
    }

    static HoleFair with(String text) {
        HoleFair f = new HoleFair();
        int clauses = law(f, text);
        if (clauses < 1) {
            wrong++;
            System.out.println(about + ": the test's own law has a fault, " + clauses + ": " + text);
        }
        return f;
    }
}
