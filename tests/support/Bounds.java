import java.util.Set;
import java.util.TreeSet;

/**
 * What the tests of the document's boundaries share. Each boundary is named by its promise and by what it says,
 * and has a test of its own on objects of its own; what was looked at is told by that name.
 */
public abstract class Bounds {
    protected static final int BAD = -1, NOT = -2, FULL = -3, STATE = -5, VOID = Integer.MIN_VALUE;
    protected static final int MISSING = -11, OUTSIDE = -13, TOO_SMALL = -14;
    protected static final int MIN = Integer.MIN_VALUE, MAX = Integer.MAX_VALUE;

    private static final Set<Integer> PROMISES = new TreeSet<>();
    private static String boundary = "";
    private static int looked = 0;
    private static int tests = 0;

    protected Bounds() {
    }

    /** Runs the test of one boundary; what it throws is a fault of that boundary alone. */
    protected static void on(int promise, String name, Runnable test) {
        PROMISES.add(promise);
        tests++;
        boundary = "promise " + promise + ", " + name;
        looked = 0;
        try {
            test.run();
        } catch (RuntimeException thrown) {
            thrown.printStackTrace(System.out);
            Check.holds(boundary + ": nothing is thrown", false);
        }
        Check.holds(boundary + ": something was looked at", looked > 0);
    }

    /** One answer behind another, in the order of the test. */
    protected static void is(int got, int want) {
        looked++;
        Check.due(boundary + ", answer " + looked, got, want);
    }

    /** Each of these promises must have had a boundary. */
    protected static void covers(int from, int to) {
        for (int promise = from; promise <= to; promise++) {
            Check.holds("promise " + promise + " has a test of a boundary", PROMISES.contains(promise));
        }
    }

    protected static void end() {
        System.out.println("boundaries: " + tests);
        Check.end();
    }

    /** A text, byte by byte onto THE TAPE, and read. */
    protected static int say(ZeroForcer x, String text) {
        feed(x, text);
        return x.read();
    }

    protected static void feed(ZeroForcer x, String text) {
        for (char letter : text.toCharArray()) {
            x.feed(letter);
        }
    }

    /** A new object on which these texts are done. */
    protected static ZeroForcer made(String... texts) {
        ZeroForcer x = new ZeroForcer();
        for (String text : texts) {
            if (say(x, text) <= 0) {
                throw new IllegalStateException("the test's own text is not done: " + text);
            }
        }
        return x;
    }

    /** n POINTS and no LINES. */
    protected static ZeroForcer bare(int n) {
        ZeroForcer x = new ZeroForcer();
        x.points(n);
        return x;
    }

    /** n POINTS, one behind another. */
    protected static ZeroForcer path(int n) {
        ZeroForcer x = bare(n);
        for (int i = 1; i < n; i++) {
            x.line(i - 1, i, 1);
        }
        return x;
    }

    /** n POINTS, each with a LINE to POINT 0. */
    protected static ZeroForcer star(int n) {
        ZeroForcer x = bare(n);
        for (int i = 1; i < n; i++) {
            x.line(0, i, 1);
        }
        return x;
    }

    /** n POINTS with all LINES there can be. */
    protected static ZeroForcer whole(int n) {
        ZeroForcer x = bare(n);
        for (int i = 0; i < n; i++) {
            for (int j = i + 1; j < n; j++) {
                x.line(i, j, 1);
            }
        }
        return x;
    }

    /** The same network by another RULE. */
    protected static ZeroForcer by(ZeroForcer x, int rule, int k) {
        x.rule(rule, k);
        return x;
    }

    /** A ROW that holds these places. */
    protected static void tell(ZeroForcer x, int row, int... places) {
        x.row(row, places.length);
        for (int i = 0; i < places.length; i++) {
            x.put(row, i, places[i]);
        }
    }

    /** The first numbers of count(). */
    protected static void counts(ZeroForcer x, int... told) {
        for (int what = 0; what < told.length; what++) {
            is(x.count(what), told[what]);
        }
    }
}
