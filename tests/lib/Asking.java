import java.util.function.IntSupplier;
import java.util.function.IntUnaryOperator;

/**
 * How the tests ask: each test has a new object x, and each answer that is not
 * the one that is due is printed with the test's title.
 */
abstract class Asking {
    static final String INDEX = "IndexOutOfBoundsException";
    static final String ARGUMENT = "IllegalArgumentException";
    static final String STATE = "IllegalStateException";

    static BeltKnots x;

    private static String title = "";
    private static int tests;
    private static int checks;
    private static int wrong;

    static void test(String name, Runnable body) {
        title = name;
        tests++;
        x = new BeltKnots();
        int before = checks;
        try {
            body.run();
        } catch (RuntimeException e) {
            fault("threw " + e);
        }
        if (checks == before) {
            fault("nothing was checked");
        }
    }

    static void end() {
        System.out.println(tests + " tests, " + checks + " answers, " + wrong + " wrong");
        System.exit(wrong == 0 ? 0 : 1);
    }

    private static void fault(String text) {
        wrong++;
        System.out.println(title + ": " + text);
    }

    // ---- what is due

    static void due(String call, long got, long want) {
        checks++;
        if (got != want) {
            fault(call + " answered " + got + ", due is " + want);
        }
    }

    static void due(String call, String got, String want) {
        checks++;
        if (!got.equals(want)) {
            fault(call + " answered " + got + ", due is " + want);
        }
    }

    static void share(double want) {
        checks++;
        if (x.trueShare() != want) {
            fault("trueShare() answered " + x.trueShare() + ", due is " + want);
        }
    }

    /** The call throws just this exception, and nothing is changed by it. */
    static void refused(String call, String exception, IntSupplier asked) {
        long before = x.digest();
        String got;
        try {
            got = Integer.toString(asked.getAsInt());
        } catch (RuntimeException e) {
            got = e.getClass().getSimpleName();
        }
        due(call, got, exception);
        due("the digest behind " + call, x.digest(), before);
    }

    /** The least and the most are taken; what is just outside, and far outside, is refused. */
    static void range(String call, String exception, int least, int most, IntUnaryOperator asked) {
        for (int number : new int[] {least - 1, most + 1, Integer.MIN_VALUE, Integer.MAX_VALUE}) {
            refused(call + " with " + number, exception, () -> asked.applyAsInt(number));
        }
        for (int number : new int[] {least, most}) {
            String got = "an answer";
            try {
                asked.applyAsInt(number);
            } catch (RuntimeException e) {
                got = e.getClass().getSimpleName();
            }
            due(call + " with " + number, got, "an answer");
        }
    }

    /** The call answers, saves one state, and undo brings back the digest, but for the buffer. */
    static void undone(String call, IntSupplier asked) {
        x.clearBuffer();
        long before = x.digest();
        int saved = x.count(13);
        due("there is room for a saved state ahead of " + call, saved < 6 ? 1 : 0, 1);
        asked.getAsInt();
        due("saved states behind " + call, x.count(13), saved + 1);
        due("undo() of " + call, x.undo(), saved);
        x.clearBuffer();
        due("the digest behind undo() of " + call, x.digest(), before);
    }

    /** The call answers this, and changes nothing that the digest tells. */
    static void looked(String call, IntSupplier asked, int want) {
        long before = x.digest();
        due(call, asked.getAsInt(), want);
        due("the digest behind " + call, x.digest(), before);
    }

    /** The cord of all, as it is told in three ways. */
    static void cordIs(String when, int want) {
        due("cord by names " + when, x.count(2), want);
        due("cord by letters " + when, x.count(3), want);
        due("cord by what was tied and untied " + when, x.count(4), want);
    }

    // ---- what is done

    static void type(String text) {
        for (int i = 0; i < text.length(); i++) {
            x.append(text.charAt(i));
        }
    }

    static void typeAnew(String text) {
        x.clearBuffer();
        type(text);
    }

    static int tied(int fisher, String name) {
        typeAnew(name);
        return x.tie(fisher);
    }

    static void tiedAll(int fisher, String... names) {
        for (String name : names) {
            tied(fisher, name);
        }
    }

    static int worked(String works) {
        typeAnew(works);
        return x.work();
    }

    static int found(String name) {
        typeAnew(name);
        return x.find();
    }

    static int whyNotTied(int fisher, String name) {
        typeAnew(name);
        return x.whyNot(fisher);
    }

    static void stormy(int fisher, int storms) {
        for (int i = 0; i < storms; i++) {
            x.storm(fisher);
        }
    }

    /** Sets how storms loosen, and how many knots that read as "?" a name bears. */
    static void weather(int step, int borne) {
        x.set(0, step);
        x.set(1, borne);
    }

    static String toldWhole(int fisher) {
        StringBuilder text = new StringBuilder();
        int code = x.told(fisher, 0);
        for (int i = 1; code != BeltKnots.NONE; i++) {
            text.append((char) code);
            code = x.told(fisher, i);
        }
        return text.toString();
    }

    /** Tells how long the buffer was, by clearing it. */
    static int bufferLength() {
        return x.clearBuffer();
    }

    // ---- the digest, told a second time

    /** Makes in x, each time anew, an object that all the same calls were made on. */
    interface Maker {
        void make();
    }

    private static long with(long hash, IntSupplier asked) {
        return 31 * hash + asked.getAsInt();
    }

    private static long withFisher(long start, int f) {
        long hash = start;
        for (int what = 0; what <= 4; what++) {
            hash = 31 * hash + x.fisher(f, what);
        }
        hash = with(hash, () -> x.ifStorm(f, 0));
        hash = with(hash, () -> x.ifStorm(f, 1));
        for (char code : toldWhole(f).toCharArray()) {
            hash = 31 * hash + code;
        }
        for (int n = 0; n < x.fisher(f, 1); n++) {
            for (int what = 0; what <= 4; what++) {
                hash = 31 * hash + x.name(f, n, what);
            }
            for (int k = 0; k < x.name(f, n, 0); k++) {
                for (int what = 0; what <= 2; what++) {
                    hash = 31 * hash + x.knot(f, n, k, what);
                }
            }
        }
        return hash;
    }

    /** The hash, told by the answers of the other methods; an object is asked 512 times at most. */
    static long digestOf(Maker maker, String buffer) {
        long hash = 3917;
        maker.make();
        for (int what = 0; what <= 13; what++) {
            hash = 31 * hash + x.count(what);
        }
        for (int l = 0; l < 16; l++) {
            for (int what = 0; what <= 5; what++) {
                hash = 31 * hash + x.letter(l, what);
            }
        }
        for (int f = 0; f < 5; f++) {
            maker.make();
            hash = withFisher(hash, f);
        }
        maker.make();
        for (int e = 0; e < x.count(6); e++) {
            for (int what = 0; what <= 3; what++) {
                hash = 31 * hash + x.drowned(e, what);
            }
        }
        hash = with(hash, () -> x.stopped(0));
        hash = with(hash, () -> x.stopped(1));
        hash = 31 * hash + Double.doubleToLongBits(x.trueShare());
        hash = with(hash, buffer::length);
        for (char code : buffer.toCharArray()) {
            hash = 31 * hash + code;
        }
        maker.make();
        return hash;
    }

    static void digestIs(String of, Maker maker, String buffer) {
        long want = digestOf(maker, buffer);
        due("digest() of " + of, x.digest(), want);
        due("digest() of " + of + ", again", x.digest(), want);
    }
}
