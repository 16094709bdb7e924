import java.lang.reflect.InvocationTargetException;
import java.lang.reflect.Method;
import java.util.ArrayList;
import java.util.Arrays;
import java.util.List;
import java.util.Set;

/**
 * Each call that can be refused, with each of its numbers just below and just above its range, the least int and the
 * greatest: what it answers, and that nothing that can be seen of the object is changed by it. By one, four and nine
 * POINTS, the last ones with twelve CHANGES, some of them UNDONE, ROWS, THE TAPE, THE TRACE and THE IMAGE in use.
 */
public final class RefusalTests {
    private static final int BAD = -1, FULL = -3, STATE = -5, VOID = Integer.MIN_VALUE;
    private static final int MISSING = -11, OUTSIDE = -13, TOO_SMALL = -14, LINE_STATE = -100;
    private static final int MIN = Integer.MIN_VALUE, MAX = Integer.MAX_VALUE;

    /**
     * The calls, their refusal, and the range of each number: p a POINT, q another POINT, s a set that has p,
     * k how many POINTS, or least..greatest.
     */
    private static final String[] CALLS = {
        "points BAD 1..9", "line BAD p q 0..1", "kind BAD p 0..4", "cost BAD p 0..9", "rule BAD 0..4 1..4",
        "of BAD p 0..4", "round BAD s", "closure BAD s", "time BAD s", "least BAD 0..3", "cheapest BAD 0..1",
        "many BAD k", "throttle BAD 0..1", "spread VOID p", "lineSpread VOID p q", "best VOID 0..1",
        "chain BAD s p 0..", "ends BAD s", "fort BAD s", "forts BAD k 0..1", "innerFort BAD 0..", "meets BAD s",
        "table VOID p p -9..9", "entry VOID p p", "prime BAD 11..11", "prime BAD 31..31", "rank BAD 0..1",
        "kernel BAD 0.. p", "mend BAD p 0..1", "mendTwo BAD p q 0..1", "fits BAD 0..2 1..40 0..1", "judge BAD 0..2",
        "feed BAD 32..126", "row BAD 0..2 ..40", "put BAD 0..2 .. ..", "get VOID 0..2 0..39", "film BAD 0..2 s 0..39",
        "act ZERO p 0..2 ..", "taken BAD p 0..4", "trace NOT 0..23", "count BAD 0..10"};

    /** Calls of which the answer does not tell whether they were refused, or that are refused by what is there, too. */
    private static final Set<String> UNTOLD = Set.of("trace", "act", "get", "put", "table", "innerFort");

    private RefusalTests() {
    }

    // ---- the objects

    private static void say(ZeroForcer x, String text) {
        for (char letter : text.toCharArray()) {
            x.feed(letter);
        }
        x.read();
    }

    private static ZeroForcer fresh() {
        return new ZeroForcer();
    }

    private static ZeroForcer small() {
        ZeroForcer x = new ZeroForcer();
        x.points(1);
        x.cost(0, 9);
        x.row(0, 0);
        x.table(0, 0, -9);
        x.undo();
        return x;
    }

    /** Nine POINTS with more CHANGES than are kept, three of them UNDONE, and all else in use. */
    private static ZeroForcer busy() {
        ZeroForcer x = new ZeroForcer();
        say(x, "n9;C0,8;l0,4;l2,6;k1,1;k2,2;k3,3;k4,4;c4,9;r4,3");
        x.table(0, 1, -9);
        x.image();
        x.table(8, 8, 9);
        x.prime(31);
        x.line(2, 6, 0);
        x.kind(8, 4);
        x.undo();
        x.undo();
        x.undo();
        x.film(0, 5, 39);
        x.row(1, 0);
        x.act(4, 1, 7);
        say(x, "x");
        for (char letter : "k0,4;c1,1".toCharArray()) {
            x.feed(letter);
        }
        return x;
    }

    private interface Maker {
        ZeroForcer make();
    }

    // ---- one refused call

    private static int ask(ZeroForcer x, String name, int[] numbers) {
        Class<?>[] types = new Class<?>[numbers.length];
        Object[] values = new Object[numbers.length];
        for (int i = 0; i < numbers.length; i++) {
            types[i] = int.class;
            values[i] = numbers[i];
        }
        try {
            Method method = ZeroForcer.class.getMethod(name, types);
            return (int) method.invoke(x, values);
        } catch (InvocationTargetException thrown) {
            thrown.getCause().printStackTrace(System.out);
            return 12345;
        } catch (ReflectiveOperationException lacking) {
            return 54321;
        }
    }

    private static void refused(Maker maker, String of, List<Integer> seen, int want, String name, int... numbers) {
        String call = name + Arrays.toString(numbers) + " of " + of;
        ZeroForcer x = maker.make();
        Check.due(call, ask(x, name, numbers), want);
        Check.holds(call + " changes nothing", Glance.of(x).equals(seen));
    }

    private static int refusalOf(String word) {
        switch (word) {
            case "VOID": return VOID;
            case "NOT": return -2;
            case "ZERO": return 0;
            default: return BAD;
        }
    }

    // ---- ranges

    /** The least and the greatest number of a range; of an open one the least and the greatest int. */
    private static int[] rangeOf(String word, int n) {
        switch (word) {
            case "p":
            case "q": return new int[] {0, n - 1};
            case "s": return new int[] {0, (1 << n) - 1};
            case "k": return new int[] {0, n};
            default:
                int dots = word.indexOf("..");
                String least = word.substring(0, dots);
                String greatest = word.substring(dots + 2);
                return new int[] {least.isEmpty() ? MIN : Integer.parseInt(least),
                    greatest.isEmpty() ? MAX : Integer.parseInt(greatest)};
        }
    }

    private static int goodOf(String word, int n) {
        int[] range = rangeOf(word, n);
        return word.equals("q") || word.equals("s") ? range[1] : Math.max(range[0], 0);
    }

    private static List<Integer> beyond(int[] range) {
        List<Integer> found = new ArrayList<>();
        if (range[0] > MIN) {
            found.add(range[0] - 1);
            found.add(MIN);
        }
        if (range[1] < MAX) {
            found.add(range[1] + 1);
            found.add(MAX);
        }
        return found;
    }

    /** One number beyond its range, all others well; then all others beyond theirs, too. */
    private static void sweep(Maker maker, String of, String row) {
        int n = maker.make().count(0);
        List<Integer> seen = Glance.of(maker.make());
        String[] parts = row.split(" ");
        String[] ranges = Arrays.copyOfRange(parts, 2, parts.length);
        int want = refusalOf(parts[1]);
        for (int at = 0; at < ranges.length; at++) {
            for (int wrong : beyond(rangeOf(ranges[at], n))) {
                int[] numbers = new int[ranges.length];
                int[] allWrong = new int[ranges.length];
                for (int i = 0; i < ranges.length; i++) {
                    List<Integer> bad = beyond(rangeOf(ranges[i], n));
                    numbers[i] = i == at ? wrong : goodOf(ranges[i], n);
                    allWrong[i] = i == at ? wrong : bad.isEmpty() ? MIN : bad.get(bad.size() / 2);
                }
                refused(maker, of, seen, want, parts[0], numbers);
                refused(maker, of, seen, want, parts[0], allWrong);
            }
        }
    }

    /** The least and the greatest number of each range are no refusal of that number. */
    private static void taken(Maker maker, String of, String row) {
        int n = maker.make().count(0);
        String[] parts = row.split(" ");
        boolean needsTwo = row.contains(" q") || parts[0].equals("best");
        if (UNTOLD.contains(parts[0]) || (n == 1 && needsTwo)) {
            return;
        }
        String[] ranges = Arrays.copyOfRange(parts, 2, parts.length);
        for (int at = 0; at < ranges.length; at++) {
            int[] range = rangeOf(ranges[at], n);
            for (int edge : range) {
                int[] numbers = new int[ranges.length];
                for (int i = 0; i < ranges.length; i++) {
                    numbers[i] = i == at ? edge : goodOf(ranges[i], n);
                }
                boolean areTwo = !row.contains("p q") || numbers[0] != numbers[1];
                boolean isIn = !parts[0].equals("chain") || (numbers[0] >> numbers[1] & 1) == 1;
                if (areTwo && isIn) {
                    int answer = ask(maker.make(), parts[0], numbers);
                    String call = parts[0] + Arrays.toString(numbers) + " of " + of;
                    Check.holds(call + " is taken", answer != refusalOf(parts[1]));
                }
            }
        }
    }

    // ---- refusals that are not of a number's range alone

    private static void twoAlike(Maker maker, String of) {
        int n = maker.make().count(0);
        List<Integer> seen = Glance.of(maker.make());
        for (int i = 0; i < n; i++) {
            refused(maker, of, seen, BAD, "line", i, i, 1);
            refused(maker, of, seen, BAD, "line", i, i, 0);
            refused(maker, of, seen, VOID, "lineSpread", i, i);
            refused(maker, of, seen, BAD, "mendTwo", i, i, 0);
            refused(maker, of, seen, BAD, "chain", (1 << n) - 1 - (1 << i), i, 0);
        }
    }

    private static void states(Maker maker, String of) {
        List<Integer> seen = Glance.of(maker.make());
        refused(maker, of, seen, TOO_SMALL, "row", 0, -2);
        refused(maker, of, seen, TOO_SMALL, "row", 2, MIN);
        refused(maker, of, seen, BAD, "row", 3, -2);
        refused(maker, of, seen, MISSING, "judge", 2);
        refused(maker, of, seen, MISSING, "put", 2, 0, 1);
        refused(maker, of, seen, MISSING, "put", 2, -1, 1);
        refused(maker, of, seen, BAD, "put", 3, -1, 1);
        refused(maker, of, seen, MISSING, "fits", 2, 1, 0);
        refused(maker, of, seen, BAD, "fits", 2, 41, 0);
        refused(maker, of, seen, BAD, "fits", 2, 1, 2);
        refused(maker, of, seen, VOID, "get", 2, 0);
        refused(maker, of, seen, -2, "kernel", 9, 0);
        refused(maker, of, seen, -2, "kernel", MAX, 0);
        refused(maker, of, seen, -2, "innerFort", MAX);
        refused(maker, of, seen, STATE, "taken", 0, 1);
        refused(maker, of, seen, STATE, "taken", 0, 4);
    }

    private static void statesOfFresh() {
        Maker maker = RefusalTests::fresh;
        List<Integer> seen = Glance.of(fresh());
        refused(maker, "a new one", seen, STATE, "undo");
        refused(maker, "a new one", seen, STATE, "redo");
        refused(maker, "a new one", seen, STATE, "back");
        refused(maker, "a new one", seen, LINE_STATE, "table", 0, 1, 1);
        refused(maker, "a new one", seen, LINE_STATE, "table", 3, 2, -9);
        refused(maker, "a new one", seen, -2, "trace", 0);
        refused(maker, "a new one", seen, -2, "time", 14);
        refused(maker, "a new one", seen, -2, "chain", 1, 0, 1);
        List<Integer> seenSmall = Glance.of(small());
        refused(RefusalTests::small, "one POINT", seenSmall, STATE, "judge", 0);
        refused(RefusalTests::small, "one POINT", seenSmall, OUTSIDE, "put", 0, 0, 1);
        refused(RefusalTests::small, "one POINT", seenSmall, OUTSIDE, "fits", 0, 1, 0);
        refused(RefusalTests::small, "one POINT", seenSmall, VOID, "best", 0);
        refused(RefusalTests::small, "one POINT", seenSmall, VOID, "best", 1);
    }

    private static void statesOfBusy() {
        Maker maker = RefusalTests::busy;
        List<Integer> seen = Glance.of(busy());
        Check.due("CHANGES of a busy one", busy().count(8), 9);
        Check.due("CHANGES UNDONE of a busy one", busy().count(9), 3);
        Check.due("bytes of a busy one", busy().count(10), 9);
        Check.due("THE IMAGE of a busy one", busy().back(), 11);
        refused(maker, "a busy one", seen, LINE_STATE, "table", 0, 1, 0);
        refused(maker, "a busy one", seen, LINE_STATE, "table", 8, 0, 0);
        refused(maker, "a busy one", seen, LINE_STATE, "table", 0, 2, 1);
        refused(maker, "a busy one", seen, STATE, "judge", 1);
        refused(maker, "a busy one", seen, OUTSIDE, "put", 0, 40, 1);
        refused(maker, "a busy one", seen, OUTSIDE, "put", 0, -1, 1);
        refused(maker, "a busy one", seen, OUTSIDE, "put", 0, MIN, 1);
        refused(maker, "a busy one", seen, OUTSIDE, "put", 0, MAX, 1);
        refused(maker, "a busy one", seen, OUTSIDE, "put", 1, 0, 1);
        refused(maker, "a busy one", seen, OUTSIDE, "fits", 1, 1, 0);
        refused(maker, "a busy one", seen, OUTSIDE, "fits", 1, 40, 1);
    }

    /** A full TAPE; there is no room for what else is seen, so it is looked at by itself. */
    private static void fullTape() {
        ZeroForcer x = new ZeroForcer();
        for (char letter : ("n9;".repeat(26) + "n8").toCharArray()) {
            x.feed(letter);
        }
        Check.due("the eighty-first byte", x.feed('0'), FULL);
        Check.due("a bad byte on a full TAPE", x.feed(127), BAD);
        Check.due("bytes of the full TAPE", x.count(10), 80);
        Check.due("its ACTS", x.read(), 27);
        Check.due("its last one", x.count(0), 8);
    }

    public static void main(String[] args) {
        Maker[] makers = {RefusalTests::fresh, RefusalTests::small, RefusalTests::busy};
        String[] names = {"a new one", "one POINT", "a busy one"};
        for (int i = 0; i < makers.length; i++) {
            for (String row : CALLS) {
                sweep(makers[i], names[i], row);
                taken(makers[i], names[i], row);
            }
            twoAlike(makers[i], names[i]);
            states(makers[i], names[i]);
        }
        statesOfFresh();
        statesOfBusy();
        fullTape();
        Check.end();
    }
}
