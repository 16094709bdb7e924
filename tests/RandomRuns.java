import java.lang.reflect.InvocationTargetException;
import java.lang.reflect.Method;
import java.util.ArrayList;
import java.util.Arrays;
import java.util.List;
import java.util.Random;

/**
 * Asks the class and the naive one the same, in many runs of calls with told seeds.
 * Every answer is compared, wrong arguments of all sizes among them, and nothing may be thrown.
 */
public final class RandomRuns {
    /**
     * How the arguments of each method are drawn, and how often it is called: p a point, s a set, w a small number,
     * b 0 or 1, k a kind or a rule, K 1 .. 4, n how many points, v -9 .. 9, c a cost, m a prime, r a row, i a place,
     * z a row's size, x any int, t a byte of the tape. Each is wrong now and then.
     */
    private static final String[] FACE = {
        "points n 1", "line ppb 60", "kind pk 10", "cost pc 10", "rule kK 8", "of pw 10", "round s 12", "closure s 10",
        "time s 12", "least w 3", "cheapest b 3", "many w 3", "throttle b 3", "spread p 2", "lineSpread pp 2",
        "chain spw 25", "ends s 10", "fort s 10", "meets s 3", "table ppv 30", "entry pp 10",
        "prime m 5", "rank b 6", "kernel wp 20", "mend pb 4", "fits riw 12", "judge r 10",
        "undo - 18", "redo - 14", "feed t 3", "wipe - 1", "read - 1", "row rz 4", "put rix 12", "get ri 12",
        "film rsi 12", "act pwx 10", "trace i 12", "taken pk 8", "image - 2", "back - 1", "count w 20"};
    /** What costs the naive one much is asked at the end of a run. */
    private static final String[] DEAR = {"forts wb", "innerFort w", "mendTwo ppb", "best b"};

    private static final int[] EDGES = {-1, -2, Integer.MIN_VALUE, Integer.MAX_VALUE, 9, 10, 31, 32, 33, 511, 512, 1024,
        -512, 40, 41, 80, 100, 1 << 30};

    private final Random random;
    private final ZeroForcer mine = new ZeroForcer();
    private final Naive naive = new Naive();
    private final List<String> told = new ArrayList<>();
    private int calls = 0;

    private RandomRuns(long seed) {
        random = new Random(seed);
    }

    private int pick(char how) {
        if (random.nextInt(25) == 0) {
            return EDGES[random.nextInt(EDGES.length)];
        }
        int n = mine.count(0);
        switch (how) {
            case 'p': return random.nextInt(n);
            case 's': return random.nextInt(8) == 0 ? (1 << n) - 1 : random.nextInt(1 << n);
            case 'w': return random.nextInt(11);
            case 'b': return random.nextInt(3) == 0 ? 0 : 1;
            case 'k': return random.nextInt(5);
            case 'K': return 1 + random.nextInt(4);
            case 'n': return 1 + random.nextInt(9);
            case 'v': return random.nextInt(19) - 9;
            case 'c': return random.nextInt(10);
            case 'm': return new int[] {11, 13, 17, 19, 23, 29, 31, 12, 7, 37}[random.nextInt(10)];
            case 'r': return random.nextInt(3);
            case 'i': return random.nextInt(random.nextBoolean() ? 4 : 42);
            case 'z': return random.nextInt(44) - 3;
            case 't': return "nmluPCkcr0123456789,; ".charAt(random.nextInt(22));
            default: return random.nextBoolean() ? random.nextInt(1 << n) : random.nextInt();
        }
    }

    private void ask(String name, int... arguments) {
        Class<?>[] types = new Class<?>[arguments.length];
        Object[] values = new Object[arguments.length];
        for (int i = 0; i < arguments.length; i++) {
            types[i] = int.class;
            values[i] = arguments[i];
        }
        calls++;
        String call = name + Arrays.toString(arguments);
        told.add(call);
        try {
            Method own = ZeroForcer.class.getMethod(name, types);
            Method other = Naive.class.getMethod(name, types);
            int before = Check.failures();
            Check.due(call, (int) own.invoke(mine, values), (int) other.invoke(naive, values));
            if (Check.failures() != before && before == 0) {
                System.out.println("  behind " + told);
            }
        } catch (InvocationTargetException thrown) {
            thrown.getCause().printStackTrace(System.out);
            Check.holds(call + " throws nothing, behind " + told, false);
        } catch (ReflectiveOperationException lacking) {
            Check.holds(call + " is there", false);
        }
    }

    private void askAs(String row) {
        String[] parts = row.split(" ");
        int[] arguments = new int[parts[1].equals("-") ? 0 : parts[1].length()];
        for (int i = 0; i < arguments.length; i++) {
            arguments[i] = pick(parts[1].charAt(i));
        }
        ask(parts[0], arguments);
    }

    private String someAct() {
        char letter = "nmluPCkcrPCllk".charAt(random.nextInt(14));
        int n = mine.count(0);
        int a = random.nextInt(n);
        int b = random.nextInt(10) == 0 ? random.nextInt(100) : random.nextInt(n);
        if ((letter == 'P' || letter == 'C') && random.nextInt(6) != 0) {
            b = Math.min(a + 2 + random.nextInt(4), n - 1);
        }
        switch (letter) {
            case 'n': return random.nextInt(3) == 0 ? "n" + random.nextInt(12) : "n0" + (1 + random.nextInt(9));
            case 'm': return "m" + new int[] {11, 13, 17, 19, 23, 29, 31, 2}[random.nextInt(8)];
            case 'k': return "k" + a + "," + random.nextInt(6);
            case 'c': return "c0" + a + "," + random.nextInt(11);
            case 'r': return "r" + random.nextInt(5) + "," + (1 + random.nextInt(4));
            default: return "" + letter + a + "," + b;
        }
    }

    private void readSome() {
        StringBuilder text = new StringBuilder();
        int acts = random.nextInt(12) + 1;
        for (int i = 0; i < acts; i++) {
            text.append(i == 0 ? "" : ";").append(someAct());
        }
        if (random.nextInt(3) == 0) {
            int at = random.nextInt(text.length());
            if (random.nextBoolean()) {
                text.setCharAt(at, "nmluPCkcr0123456789,; x~".charAt(random.nextInt(24)));
            } else {
                text.setLength(at);
            }
        }
        for (int i = 0; i < text.length(); i++) {
            ask("feed", text.charAt(i));
        }
        ask("read");
        ask("count", 10);
    }

    /** Rows that tell a film or an order well, but for what is put into them now and then. */
    private void tellSome() {
        int n = mine.count(0);
        int row = random.nextInt(3);
        if (random.nextBoolean()) {
            ask("film", row, random.nextInt(1 << n), random.nextInt(8));
        } else {
            int set = random.nextInt(1 << n);
            ask("row", row, 1 + random.nextInt(n));
            ask("put", row, 0, set);
            for (int i = 1; i < n; i++) {
                ask("put", row, i, naive.chain(set, random.nextInt(n), 1 + random.nextInt(2)));
            }
        }
        ask("judge", row);
        int m = 1 + random.nextInt(6);
        ask("rule", random.nextInt(5), 1 + random.nextInt(4));
        ask("fits", row, m, 0);
        ask("fits", row, m, 1);
    }

    private void askAll() {
        int n = mine.count(0);
        for (int what = -1; what <= 11; what++) {
            ask("count", what);
            ask("many", what);
            ask("forts", what, 0);
            ask("forts", what, 1);
            ask("innerFort", what);
            ask("of", Math.max(0, Math.min(what, n - 1)), random.nextInt(5));
        }
        for (int what = -1; what <= 4; what++) {
            ask("least", what);
            ask("cheapest", what);
            ask("throttle", what);
            ask("rank", what);
        }
        for (int i = 0; i < n; i++) {
            for (int j = 0; j < n; j++) {
                ask("entry", i, j);
                ask("kernel", i, j);
            }
            ask("mend", i, 0);
            ask("mend", i, 1);
            ask("spread", i);
        }
        for (String row : DEAR) {
            askAs(row);
        }
    }

    private void run(boolean dear) {
        int pool = 0;
        for (String row : FACE) {
            pool += Integer.parseInt(row.split(" ")[2]);
        }
        if (dear) {
            ask("points", 1 + random.nextInt(9));
        }
        int lines = random.nextInt(20);
        for (int i = 0; i < lines; i++) {
            askAs("line ppb");
        }
        while (calls < 400) {
            int drawn = random.nextInt(pool);
            for (String row : FACE) {
                drawn -= Integer.parseInt(row.split(" ")[2]);
                if (drawn < 0) {
                    askAs(row);
                    break;
                }
            }
            if (random.nextInt(60) == 0) {
                readSome();
            }
            if (random.nextInt(25) == 0) {
                tellSome();
            }
        }
        if (dear) {
            askAll();
        }
    }

    public static void main(String[] args) {
        int runs = args.length > 1 ? Integer.parseInt(args[1]) : 400;
        int from = args.length > 2 ? Integer.parseInt(args[2]) : 0;
        for (int seed = from; seed < from + runs; seed++) {
            new RandomRuns(seed).run(seed % 2 == 0);
        }
        Check.end();
    }
}
