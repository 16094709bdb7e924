import java.util.Arrays;

/**
 * A bench for colour that forces itself through a network of at most nine points.
 * What each call answers is told by the document's promises; a set of points is an int of bits throughout.
 */
public final class ZeroForcer {
    public static final int BAD = -1, NOT = -2, FULL = -3, STATE = -5, VOID = Integer.MIN_VALUE;

    private static final int MISSING = -11, OUTSIDE = -13, TOO_SMALL = -14, LINE_STATE = -100;
    private static final int FAULT_BASE = -100, REFUSED_BASE = -200;

    private static final int MOST_POINTS = 9, MOST_SETS = 512;
    private static final int MOST_COST = 9, MOST_NUMBER = 9, MOST_K = 4;
    private static final int MOST_PLACES = 40, MOST_ROWS = 3, MOST_BYTES = 80;
    private static final int MOST_CHANGES = 12, MOST_TRACE = 24;

    private static final int POINT = 0, LEAF = 1, HUB = 2, STAR = 3, RIM = 4, KINDS = 5;
    private static final int PLAIN = 0, SKEW = 1, PARTED = 2, WIDE = 3, MANY = 4, RULES = 5;

    /** What a CHANGE can be of; a LINE is nothing but a number of THE TABLE that is not 0. */
    private static final int OF_NUMBER = 0, OF_KIND = 1, OF_COST = 2, OF_RULE = 3, OF_PRIME = 4;

    private static final int[] PRIMES = {11, 13, 17, 19, 23, 29, 31};

    private final Network net;
    private final Network kept;
    private boolean hasImage;
    private final History history;
    private final Forcing forcing;
    private final Chains chains;
    private final FortMarks fortMarks;
    private final Grid grid;
    private final Row[] rows;
    private final Tape tape;
    private final Bodies bodies;

    public ZeroForcer() {
        net = new Network();
        kept = new Network();
        hasImage = false;
        history = new History();
        forcing = new Forcing();
        chains = new Chains();
        fortMarks = new FortMarks();
        grid = new Grid();
        rows = new Row[MOST_ROWS];
        for (int i = 0; i < MOST_ROWS; i++) {
            rows[i] = new Row();
        }
        tape = new Tape();
        bodies = new Bodies();
    }

    // ---- the network

    public int points(int n) {
        if (n < 1 || n > MOST_POINTS) {
            return BAD;
        }
        int was = net.points;
        net.begin(n);
        history.forget();
        return was;
    }

    public int line(int a, int b, int is) {
        if (!areTwo(a, b) || is < 0 || is > 1) {
            return BAD;
        }
        return tellLine(a, b, is);
    }

    public int kind(int point, int k) {
        if (!net.hasPoint(point) || k < 0 || k >= KINDS) {
            return BAD;
        }
        return history.tell(net, OF_KIND, point, 0, k);
    }

    public int cost(int point, int v) {
        if (!net.hasPoint(point) || v < 0 || v > MOST_COST) {
            return BAD;
        }
        return history.tell(net, OF_COST, point, 0, v);
    }

    public int rule(int rule, int k) {
        if (rule < 0 || rule >= RULES || k < 1 || k > MOST_K) {
            return BAD;
        }
        return history.tell(net, OF_RULE, 0, 0, 10 * rule + k);
    }

    public int of(int point, int what) {
        if (!net.hasPoint(point)) {
            return BAD;
        }
        switch (what) {
            case 0: return net.kinds[point];
            case 1: return net.costs[point];
            case 2: return net.countsOf(point);
            case 3: return Integer.bitCount(net.near[point]);
            case 4: return net.near[point];
            default: return BAD;
        }
    }

    // ---- rounds

    public int round(int set) {
        if (!net.hasSet(set)) {
            return BAD;
        }
        forcing.take(net);
        return forcing.next(set, true);
    }

    public int closure(int set) {
        if (!net.hasSet(set)) {
            return BAD;
        }
        forcing.take(net);
        return forcing.lastOf(set);
    }

    public int time(int set) {
        if (!net.hasSet(set)) {
            return BAD;
        }
        forcing.take(net);
        int rounds = forcing.roundsOf(set);
        return rounds < 0 ? NOT : rounds;
    }

    // ---- best sets

    public int least(int what) {
        if (what < 0 || what > 3) {
            return BAD;
        }
        forcing.take(net);
        forcing.fillTimes();
        int size = forcing.leastSize();
        switch (what) {
            case 0: return size;
            case 1: return forcing.firstOf(size);
            case 2: return forcing.howMany(size);
            default: return forcing.leastTime(size);
        }
    }

    public int cheapest(int what) {
        if (what < 0 || what > 1) {
            return BAD;
        }
        forcing.take(net);
        forcing.fillTimes();
        int set = forcing.cheapestSet(net);
        return what == 0 ? set : net.sumOf(set);
    }

    public int many(int k) {
        if (k < 0 || k > net.points) {
            return BAD;
        }
        forcing.take(net);
        forcing.fillTimes();
        return forcing.howMany(k);
    }

    public int throttle(int what) {
        if (what < 0 || what > 1) {
            return BAD;
        }
        forcing.take(net);
        forcing.fillTimes();
        int set = forcing.throttleSet();
        return what == 1 ? set : forcing.sizeAndTime(set);
    }

    public int spread(int point) {
        if (!net.hasPoint(point)) {
            return VOID;
        }
        int whole = leastOfAll();
        forcing.takeWithout(net, point);
        forcing.fillTimes();
        return whole - forcing.leastSize();
    }

    public int lineSpread(int a, int b) {
        if (!areTwo(a, b)) {
            return VOID;
        }
        return leastOfAll() - leastWithFlipped(a, b);
    }

    public int best(int what) {
        if (what < 0 || what > 1 || net.points < 2) {
            return VOID;
        }
        int whole = leastOfAll();
        int bestTwo = 0;
        int bestSpread = VOID;
        for (int a = 0; a < net.points; a++) {
            for (int b = a + 1; b < net.points; b++) {
                int spread = whole - leastWithFlipped(a, b);
                if (spread > bestSpread) {
                    bestSpread = spread;
                    bestTwo = 10 * a + b;
                }
            }
        }
        return what == 0 ? bestTwo : bestSpread;
    }

    // ---- chains and forts, by PLAIN whatever the RULE is

    public int chain(int set, int point, int i) {
        if (!net.hasSet(set) || !net.hasPoint(point) || (set >> point & 1) == 0 || i < 0) {
            return BAD;
        }
        chains.force(net, set);
        int found = chains.behind(point, i);
        return found < 0 ? NOT : found;
    }

    public int ends(int set) {
        if (!net.hasSet(set)) {
            return BAD;
        }
        chains.force(net, set);
        int ends = 0;
        for (int i = 0; i < net.points; i++) {
            if ((set >> i & 1) == 1) {
                ends |= 1 << chains.lastFrom(i);
            }
        }
        return ends;
    }

    public int fort(int set) {
        if (!net.hasSet(set)) {
            return BAD;
        }
        fortMarks.fillMarks(net);
        switch (fortMarks.marks[set]) {
            case FortMarks.INNER: return 2;
            case FortMarks.FORT: return 1;
            default: return 0;
        }
    }

    public int forts(int k, int inner) {
        if (k < 0 || k > net.points || inner < 0 || inner > 1) {
            return BAD;
        }
        fortMarks.fillMarks(net);
        return fortMarks.howMany(net.all(), k, inner == 1 ? FortMarks.INNER : FortMarks.FORT);
    }

    public int innerFort(int i) {
        if (i < 0) {
            return BAD;
        }
        fortMarks.fillMarks(net);
        int found = fortMarks.innerAt(net.all(), i);
        return found < 0 ? NOT : found;
    }

    public int meets(int set) {
        if (!net.hasSet(set)) {
            return BAD;
        }
        fortMarks.fillMarks(net);
        // a FORT that the set does not meet would lie in what the set leaves
        return fortMarks.marks[net.all() & ~set] == FortMarks.FREE ? 1 : 0;
    }

    // ---- the table

    public int table(int i, int j, int v) {
        if (!net.hasPoint(i) || !net.hasPoint(j) || v < -MOST_NUMBER || v > MOST_NUMBER) {
            return VOID;
        }
        if (i != j && (v != 0) != net.hasLine(i, j)) {
            return LINE_STATE;
        }
        return history.tell(net, OF_NUMBER, i, j, v);
    }

    public int entry(int i, int j) {
        if (!net.hasPoint(i) || !net.hasPoint(j)) {
            return VOID;
        }
        return net.numbers[i][j];
    }

    public int prime(int p) {
        if (!isPrime(p)) {
            return BAD;
        }
        return history.tell(net, OF_PRIME, 0, 0, p);
    }

    public int rank(int what) {
        if (what < 0 || what > 1) {
            return BAD;
        }
        grid.take(net);
        int rank = grid.reduce(net.points);
        return what == 0 ? rank : net.points - rank;
    }

    public int kernel(int k, int i) {
        if (!net.hasPoint(i) || k < 0) {
            return BAD;
        }
        grid.take(net);
        grid.reduce(net.points);
        int free = grid.freeColumn(k);
        return free < 0 ? NOT : grid.noughtAt(free, i);
    }

    public int mend(int point, int what) {
        if (!net.hasPoint(point) || what < 0 || what > 1) {
            return BAD;
        }
        grid.take(net);
        int number = grid.mendAt(point);
        return what == 0 ? number : grid.mendedRank;
    }

    public int mendTwo(int a, int b, int what) {
        if (!areTwo(a, b) || what < 0 || what > 1) {
            return BAD;
        }
        int lesser = Math.min(a, b);
        int greater = Math.max(a, b);
        int bestCode = 0;
        int bestRank = MOST_POINTS + 1;
        for (int first = 0; first < net.prime; first++) {
            grid.take(net);
            grid.cells[lesser][lesser] = first;
            int second = grid.mendAt(greater);
            if (grid.mendedRank < bestRank) {
                bestRank = grid.mendedRank;
                bestCode = net.prime * first + second;
            }
        }
        return what == 0 ? bestCode : bestRank;
    }

    // ---- rules read back, orders judged

    public int fits(int row, int m, int what) {
        Row told = rowAt(row);
        if (told == null || m < 1 || m > MOST_PLACES || what < 0 || what > 1) {
            return BAD;
        }
        if (told.size < 0) {
            return MISSING;
        }
        if (m > told.size) {
            return OUTSIDE;
        }
        forcing.take(net);
        return what == 0 ? fittingRules(told, m) : leastFittingK(told, m);
    }

    public int judge(int row) {
        Row told = rowAt(row);
        if (told == null) {
            return BAD;
        }
        if (told.size < 0) {
            return MISSING;
        }
        if (told.size == 0) {
            return STATE;
        }
        if (!net.hasSet(told.places[0])) {
            return 0;
        }
        int coloured = told.places[0];
        for (int i = 1; i < told.size; i++) {
            int point = told.places[i];
            if (!canBeForced(point, coloured)) {
                return i;
            }
            coloured |= 1 << point;
        }
        return NOT;
    }

    // ---- changes

    public int undo() {
        return history.stepBack(net) ? history.done : STATE;
    }

    public int redo() {
        return history.stepOn(net) ? history.told - history.done : STATE;
    }

    // ---- the tape

    public int feed(int letter) {
        if (letter < 32 || letter > 126) {
            return BAD;
        }
        return tape.append(letter) ? tape.size : FULL;
    }

    public int wipe() {
        int was = tape.size;
        tape.size = 0;
        return was;
    }

    public int read() {
        int fault = tape.findFault();
        int answer = fault < 0 ? tape.acts : FAULT_BASE - fault;
        tape.at = 0;
        for (int done = 0; fault < 0 && done < tape.acts; done++) {
            if (doAct() < 0) {
                answer = REFUSED_BASE - done;
                break;
            }
        }
        tape.size = 0;
        return answer;
    }

    // ---- rows

    public int row(int row, int n) {
        Row told = rowAt(row);
        if (told == null || n > MOST_PLACES) {
            return BAD;
        }
        if (n < -1) {
            return TOO_SMALL;
        }
        told.size = n;
        Arrays.fill(told.places, 0);
        return 1;
    }

    public int put(int row, int i, int v) {
        Row told = rowAt(row);
        if (told == null) {
            return BAD;
        }
        if (told.size < 0) {
            return MISSING;
        }
        if (!told.hasPlace(i)) {
            return OUTSIDE;
        }
        told.places[i] = v;
        return 1;
    }

    public int get(int row, int i) {
        Row told = rowAt(row);
        if (told == null || !told.hasPlace(i)) {
            return VOID;
        }
        return told.places[i];
    }

    public int film(int row, int set, int m) {
        Row told = rowAt(row);
        if (told == null || !net.hasSet(set) || m < 0 || m >= MOST_PLACES) {
            return BAD;
        }
        forcing.take(net);
        int coloured = set;
        told.places[0] = set;
        for (int i = 1; i <= m; i++) {
            coloured = forcing.next(coloured, i == 1);
            told.places[i] = coloured;
        }
        told.size = m + 1;
        return m + 1;
    }

    // ---- acts of points

    public int act(int point, int act, int x) {
        if (!net.hasPoint(point) || act < 0 || act > 2) {
            return 0;
        }
        bodies.begin(net.kinds[point], point, net.costs[point]);
        switch (act) {
            case 0: return bodies.asks(x);
            case 1: return bodies.says(x);
            default: return bodies.tells(x);
        }
    }

    public int trace(int i) {
        return i < 0 || i >= bodies.size ? NOT : bodies.ran[i];
    }

    public int taken(int point, int k) {
        if (!net.hasPoint(point) || k < 0 || k >= KINDS) {
            return BAD;
        }
        return Bodies.isUnder(net.kinds[point], k) ? net.costs[point] : STATE;
    }

    // ---- the image, and what is counted

    public int image() {
        kept.become(net);
        hasImage = true;
        return net.lines();
    }

    public int back() {
        if (!hasImage) {
            return STATE;
        }
        net.become(kept);
        history.forget();
        return net.lines();
    }

    public int count(int what) {
        switch (what) {
            case 0: return net.points;
            case 1: return net.lines();
            case 2: return net.rule;
            case 3: return net.k;
            case 4: return net.prime;
            case 5: return net.leastDegree();
            case 6: return net.greatestDegree();
            case 7: return net.parts();
            case 8: return history.done;
            case 9: return history.told - history.done;
            case 10: return tape.size;
            default: return BAD;
        }
    }

    // ---- what several calls use

    private boolean areTwo(int a, int b) {
        return net.hasPoint(a) && net.hasPoint(b) && a != b;
    }

    private Row rowAt(int row) {
        return row < 0 || row >= MOST_ROWS ? null : rows[row];
    }

    private static boolean isPrime(int p) {
        for (int known : PRIMES) {
            if (known == p) {
                return true;
            }
        }
        return false;
    }

    /** Leaves the number of a LINE that is there as it is: only a new one brings 1. */
    private int tellLine(int a, int b, int is) {
        int was = net.hasLine(a, b) ? 1 : 0;
        if (was != is) {
            history.tell(net, OF_NUMBER, a, b, is);
        }
        return was;
    }

    private int leastOfAll() {
        forcing.take(net);
        forcing.fillTimes();
        return forcing.leastSize();
    }

    private int leastWithFlipped(int a, int b) {
        forcing.takeFlipped(net, a, b);
        forcing.fillTimes();
        return forcing.leastSize();
    }

    private boolean canBeForced(int point, int coloured) {
        if (!net.hasPoint(point) || (coloured >> point & 1) == 1) {
            return false;
        }
        int bit = 1 << point;
        for (int i = 0; i < net.points; i++) {
            if ((coloured >> i & 1) == 1 && (net.near[i] & ~coloured) == bit) {
                return true;
            }
        }
        return false;
    }

    private int fittingRules(Row told, int m) {
        int found = 0;
        for (int rule = 0; rule < RULES; rule++) {
            forcing.rule = rule;
            if (forcing.goesAs(told.places, m)) {
                found |= 1 << rule;
            }
        }
        return found;
    }

    private int leastFittingK(Row told, int m) {
        forcing.rule = MANY;
        for (int k = 1; k <= MOST_K; k++) {
            forcing.k = k;
            if (forcing.goesAs(told.places, m)) {
                return k;
            }
        }
        return NOT;
    }

    /** Does the ACT at which the tape stands; what it answers is below 0 if it was refused. */
    private int doAct() {
        int letter = tape.nextByte();
        int a = tape.nextNumber();
        int b = Tape.numbersOf(letter) == 2 ? tape.nextNumber() : 0;
        switch (letter) {
            case 'n': return points(a);
            case 'l': return line(a, b, 1);
            case 'u': return line(a, b, 0);
            case 'P': return tellPath(a, b, 1);
            case 'C': return tellPath(a, b, 2);
            case 'k': return kind(a, b);
            case 'c': return cost(a, b);
            case 'r': return rule(a, b);
            default: return prime(a);
        }
    }

    /** LINES from a up to b, each to the next one; b stands this far behind a at least. By 2, the ring closes. */
    private int tellPath(int a, int b, int leastStep) {
        if (!net.hasPoint(a) || !net.hasPoint(b) || b < a + leastStep) {
            return BAD;
        }
        for (int i = a; i < b; i++) {
            tellLine(i, i + 1, 1);
        }
        if (leastStep == 2) {
            tellLine(b, a, 1);
        }
        return 1;
    }

    /** THE NETWORK with its KINDS, COSTS, RULE, K, THE TABLE and PRIME: all that THE IMAGE holds. */
    private static final class Network {
        int points;
        int rule;
        int k;
        int prime;
        final int[] near = new int[MOST_POINTS];
        final int[] kinds = new int[MOST_POINTS];
        final int[] costs = new int[MOST_POINTS];
        final int[][] numbers = new int[MOST_POINTS][MOST_POINTS];

        Network() {
            points = 4;
            rule = PLAIN;
            k = 1;
            prime = 11;
        }

        void begin(int n) {
            points = n;
            Arrays.fill(near, 0);
            Arrays.fill(kinds, POINT);
            Arrays.fill(costs, 0);
            for (int i = 0; i < MOST_POINTS; i++) {
                Arrays.fill(numbers[i], 0);
            }
        }

        void become(Network other) {
            points = other.points;
            rule = other.rule;
            k = other.k;
            prime = other.prime;
            System.arraycopy(other.near, 0, near, 0, MOST_POINTS);
            System.arraycopy(other.kinds, 0, kinds, 0, MOST_POINTS);
            System.arraycopy(other.costs, 0, costs, 0, MOST_POINTS);
            for (int i = 0; i < MOST_POINTS; i++) {
                System.arraycopy(other.numbers[i], 0, numbers[i], 0, MOST_POINTS);
            }
        }

        boolean hasPoint(int i) {
            return i >= 0 && i < points;
        }

        int all() {
            return (1 << points) - 1;
        }

        boolean hasSet(int set) {
            return set >= 0 && set <= all();
        }

        boolean hasLine(int i, int j) {
            return (near[i] >> j & 1) == 1;
        }

        int valueOf(int what, int i, int j) {
            switch (what) {
                case OF_NUMBER: return numbers[i][j];
                case OF_KIND: return kinds[i];
                case OF_COST: return costs[i];
                case OF_RULE: return 10 * rule + k;
                default: return prime;
            }
        }

        void setValue(int what, int i, int j, int v) {
            switch (what) {
                case OF_NUMBER:
                    setNumber(i, j, v);
                    break;
                case OF_KIND:
                    kinds[i] = v;
                    break;
                case OF_COST:
                    costs[i] = v;
                    break;
                case OF_RULE:
                    rule = v / 10;
                    k = v % 10;
                    break;
                default:
                    prime = v;
                    break;
            }
        }

        private void setNumber(int i, int j, int v) {
            numbers[i][j] = v;
            numbers[j][i] = v;
            if (i == j) {
                return;
            }
            if (v != 0) {
                near[i] |= 1 << j;
                near[j] |= 1 << i;
            } else {
                near[i] &= ~(1 << j);
                near[j] &= ~(1 << i);
            }
        }

        int countsOf(int point) {
            int one = costs[point] + 1;
            switch (kinds[point]) {
                case HUB: return 2 * one - 1;
                case STAR: return (one + 1) / 2;
                case RIM: return 2 * one + 2;
                default: return one;
            }
        }

        int sumOf(int set) {
            int sum = 0;
            for (int i = 0; i < points; i++) {
                if ((set >> i & 1) == 1) {
                    sum += countsOf(i);
                }
            }
            return sum;
        }

        int lines() {
            int ends = 0;
            for (int i = 0; i < points; i++) {
                ends += Integer.bitCount(near[i]);
            }
            return ends / 2;
        }

        int leastDegree() {
            int least = MOST_POINTS;
            for (int i = 0; i < points; i++) {
                least = Math.min(least, Integer.bitCount(near[i]));
            }
            return least;
        }

        int greatestDegree() {
            int greatest = 0;
            for (int i = 0; i < points; i++) {
                greatest = Math.max(greatest, Integer.bitCount(near[i]));
            }
            return greatest;
        }

        /** How many hang-together parts there are: each turn takes the part of the least point left. */
        int parts() {
            int left = all();
            int found = 0;
            for (int turn = 0; turn < MOST_POINTS && left != 0; turn++) {
                left &= ~partOf(left & -left);
                found++;
            }
            return found;
        }

        private int partOf(int seed) {
            int part = seed;
            for (int turn = 0; turn < MOST_POINTS; turn++) {
                for (int i = 0; i < points; i++) {
                    if ((part >> i & 1) == 1) {
                        part |= near[i];
                    }
                }
            }
            return part;
        }
    }

    /** One CHANGE: of what, where, and its numbers ahead and behind. */
    private static final class Change {
        int what;
        int i;
        int j;
        int before;
        int after;
    }

    /** The CHANGES told: those below done can be UNDONE, those from there on DONE AGAIN. */
    private static final class History {
        final Change[] changes = new Change[MOST_CHANGES];
        int done;
        int told;

        History() {
            for (int i = 0; i < MOST_CHANGES; i++) {
                changes[i] = new Change();
            }
            done = 0;
            told = 0;
        }

        void forget() {
            done = 0;
            told = 0;
        }

        /** Answers what it was; a number that is so already is no CHANGE. */
        int tell(Network net, int what, int i, int j, int v) {
            int before = net.valueOf(what, i, j);
            if (before == v) {
                return before;
            }
            if (done >= MOST_CHANGES) {
                dropEldest();
            }
            Change change = changes[done];
            change.what = what;
            change.i = i;
            change.j = j;
            change.before = before;
            change.after = v;
            done++;
            told = done;
            net.setValue(what, i, j, v);
            return before;
        }

        private void dropEldest() {
            Change eldest = changes[0];
            for (int i = 1; i < MOST_CHANGES; i++) {
                changes[i - 1] = changes[i];
            }
            changes[MOST_CHANGES - 1] = eldest;
            done = MOST_CHANGES - 1;
        }

        boolean stepBack(Network net) {
            if (done <= 0) {
                return false;
            }
            done--;
            Change change = changes[done];
            net.setValue(change.what, change.i, change.j, change.before);
            return true;
        }

        boolean stepOn(Network net) {
            if (done >= told) {
                return false;
            }
            Change change = changes[done];
            net.setValue(change.what, change.i, change.j, change.after);
            done++;
            return true;
        }
    }

    /** The ROUNDS by RULE, on a copy of the lines from which a point may be left out, or in which one is turned. */
    private static final class Forcing {
        static final int NEVER = -1;

        int all;
        int rule;
        int k;
        final int[] near = new int[MOST_POINTS];
        /** By set: all NEIGHBOURS of its points together. */
        final int[] around = new int[MOST_SETS];
        /** By set: its TIME, or NEVER. */
        final int[] times = new int[MOST_SETS];

        void take(Network net) {
            copy(net);
            fillAround();
        }

        void takeWithout(Network net, int point) {
            copy(net);
            int others = ~(1 << point);
            all &= others;
            for (int i = 0; i < MOST_POINTS; i++) {
                near[i] &= others;
            }
            near[point] = 0;
            fillAround();
        }

        void takeFlipped(Network net, int a, int b) {
            copy(net);
            near[a] ^= 1 << b;
            near[b] ^= 1 << a;
            fillAround();
        }

        private void copy(Network net) {
            all = net.all();
            rule = net.rule;
            k = net.k;
            System.arraycopy(net.near, 0, near, 0, MOST_POINTS);
        }

        private void fillAround() {
            around[0] = 0;
            for (int i = 0; i < MOST_POINTS && (1 << i) <= all; i++) {
                int bit = 1 << i;
                for (int set = 0; set < bit; set++) {
                    around[bit + set] = near[i] | around[set];
                }
            }
        }

        /** What is COLOURED behind one ROUND; the first one matters by WIDE alone. */
        int next(int set, boolean first) {
            switch (rule) {
                case SKEW: return set | forcedBy(all, all & ~set);
                case PARTED: return set | forcedInParts(set);
                case WIDE: return set | (first ? around[set] : forcedBy(set, all & ~set));
                case MANY: return set | forcedByMany(set);
                default: return set | forcedBy(set, all & ~set);
            }
        }

        /** What those of a set force, each that has just one NEIGHBOUR among the white ones. */
        private int forcedBy(int set, int white) {
            int forced = 0;
            for (int i = 0; i < MOST_POINTS; i++) {
                int left = near[i] & white;
                // just one bit: without its lowest one it is empty
                if ((set >> i & 1) == 1 && (left & (left - 1)) == 0) {
                    forced |= left;
                }
            }
            return forced;
        }

        private int forcedInParts(int set) {
            int white = all & ~set;
            int left = white;
            int forced = 0;
            for (int turn = 0; turn < MOST_POINTS && left != 0; turn++) {
                int part = partOf(left & -left, white);
                forced |= forcedBy(set, part);
                left &= ~part;
            }
            return forced;
        }

        private int partOf(int seed, int white) {
            int part = seed;
            for (int turn = 0; turn < MOST_POINTS; turn++) {
                int more = part | (around[part] & white);
                if (more == part) {
                    return part;
                }
                part = more;
            }
            return part;
        }

        private int forcedByMany(int set) {
            int forced = 0;
            for (int i = 0; i < MOST_POINTS; i++) {
                int left = near[i] & ~set;
                if ((set >> i & 1) == 1 && Integer.bitCount(left) <= k) {
                    forced |= left;
                }
            }
            return forced;
        }

        /** Where a set comes to rest: a first ROUND by WIDE that changes nothing leaves nobody to force later. */
        int lastOf(int set) {
            int coloured = set;
            for (int i = 0; i <= MOST_POINTS; i++) {
                int more = next(coloured, i == 0);
                if (more == coloured) {
                    return coloured;
                }
                coloured = more;
            }
            return coloured;
        }

        int roundsOf(int set) {
            int coloured = set;
            for (int i = 0; i <= MOST_POINTS; i++) {
                if (coloured == all) {
                    return i;
                }
                int more = next(coloured, i == 0);
                if (more == coloured) {
                    return NEVER;
                }
                coloured = more;
            }
            return NEVER;
        }

        /** A ROUND leads to a greater number, whose time is known already, as the sets come from the greatest down. */
        void fillTimes() {
            for (int set = all; set >= 0; set--) {
                times[set] = set == all ? 0 : NEVER;
                if (isWithin(set)) {
                    takeTimeFrom(set, next(set, false));
                }
            }
            if (rule == WIDE) {
                takeFirstRounds();
            }
        }

        /** Upwards, so that what a first ROUND leads to still has its time by PLAIN. */
        private void takeFirstRounds() {
            for (int set = 0; set <= all; set++) {
                if (isWithin(set)) {
                    takeTimeFrom(set, next(set, true));
                }
            }
        }

        /** A point that is left out makes a gap in the numbers of the sets. */
        private boolean isWithin(int set) {
            return (set & ~all) == 0;
        }

        private void takeTimeFrom(int set, int later) {
            if (later != set) {
                times[set] = times[later] == NEVER ? NEVER : times[later] + 1;
            }
        }

        int leastSize() {
            int least = MOST_POINTS;
            for (int set = 0; set <= all; set++) {
                if (times[set] >= 0) {
                    least = Math.min(least, Integer.bitCount(set));
                }
            }
            return least;
        }

        private boolean forcesWith(int set, int size) {
            return times[set] >= 0 && Integer.bitCount(set) == size;
        }

        int firstOf(int size) {
            for (int set = 0; set <= all; set++) {
                if (forcesWith(set, size)) {
                    return set;
                }
            }
            return all;
        }

        int howMany(int size) {
            int found = 0;
            for (int set = 0; set <= all; set++) {
                if (forcesWith(set, size)) {
                    found++;
                }
            }
            return found;
        }

        int leastTime(int size) {
            int least = MOST_POINTS;
            for (int set = 0; set <= all; set++) {
                if (forcesWith(set, size)) {
                    least = Math.min(least, times[set]);
                }
            }
            return least;
        }

        int sizeAndTime(int set) {
            return Integer.bitCount(set) + times[set];
        }

        int throttleSet() {
            int best = all;
            // downwards, so that of like ones the least stays
            for (int set = all; set >= 0; set--) {
                if (times[set] >= 0 && sizeAndTime(set) <= sizeAndTime(best)) {
                    best = set;
                }
            }
            return best;
        }

        int cheapestSet(Network net) {
            int best = all;
            int bestSum = net.sumOf(all);
            for (int set = all; set >= 0; set--) {
                if (times[set] >= 0) {
                    int sum = net.sumOf(set);
                    if (sum <= bestSum) {
                        best = set;
                        bestSum = sum;
                    }
                }
            }
            return best;
        }

        /** Whether the first m places tell a set and what its ROUNDS make of it. */
        boolean goesAs(int[] places, int m) {
            int coloured = places[0];
            if (coloured < 0 || coloured > all) {
                return false;
            }
            for (int i = 1; i < m; i++) {
                coloured = next(coloured, i == 1);
                if (places[i] != coloured) {
                    return false;
                }
            }
            return true;
        }
    }

    /** Who forced whom, one force at a time, by PLAIN. */
    private static final class Chains {
        static final int NOBODY = -1;

        final int[] whom = new int[MOST_POINTS];

        void force(Network net, int set) {
            Arrays.fill(whom, NOBODY);
            int coloured = set;
            for (int turn = 0; turn < MOST_POINTS; turn++) {
                int who = leastForcer(net, coloured);
                if (who == NOBODY) {
                    return;
                }
                int bit = net.near[who] & ~coloured;
                whom[who] = Integer.bitCount(bit - 1);
                coloured |= bit;
            }
        }

        private int leastForcer(Network net, int coloured) {
            for (int i = 0; i < net.points; i++) {
                if ((coloured >> i & 1) == 1 && Integer.bitCount(net.near[i] & ~coloured) == 1) {
                    return i;
                }
            }
            return NOBODY;
        }

        int behind(int point, int steps) {
            int at = point;
            for (int step = 0; step < steps && at != NOBODY; step++) {
                at = whom[at];
            }
            return at;
        }

        int lastFrom(int point) {
            int at = point;
            for (int step = 0; step < MOST_POINTS && whom[at] != NOBODY; step++) {
                at = whom[at];
            }
            return at;
        }
    }

    /** By set: whether a FORT lies within it, and what it is itself. */
    private static final class FortMarks {
        static final int FREE = 0, HOLDS = 1, FORT = 2, INNER = 3;

        final int[] marks = new int[MOST_SETS];

        void fillMarks(Network net) {
            marks[0] = FREE;
            for (int set = 1; set <= net.all(); set++) {
                boolean holds = holdsLesser(set);
                if (isFort(net, set)) {
                    marks[set] = holds ? FORT : INNER;
                } else {
                    marks[set] = holds ? HOLDS : FREE;
                }
            }
        }

        /** Sets with one point less stand below this one, so their marks are known. */
        private boolean holdsLesser(int set) {
            for (int i = 0; i < MOST_POINTS; i++) {
                if ((set >> i & 1) == 1 && marks[set & ~(1 << i)] != FREE) {
                    return true;
                }
            }
            return false;
        }

        private boolean isFort(Network net, int set) {
            for (int i = 0; i < net.points; i++) {
                if ((set >> i & 1) == 0 && Integer.bitCount(net.near[i] & set) == 1) {
                    return false;
                }
            }
            return true;
        }

        int howMany(int all, int size, int mark) {
            int found = 0;
            for (int set = 0; set <= all; set++) {
                if (marks[set] >= mark && Integer.bitCount(set) == size) {
                    found++;
                }
            }
            return found;
        }

        int innerAt(int all, int i) {
            int seen = 0;
            for (int set = 0; set <= all; set++) {
                if (marks[set] == INNER) {
                    if (seen == i) {
                        return set;
                    }
                    seen++;
                }
            }
            return -1;
        }
    }

    /** THE TABLE modulo PRIME, brought to rows that lead with 1. */
    private static final class Grid {
        int size;
        int prime;
        int mendedRank;
        final int[][] cells = new int[MOST_POINTS][MOST_POINTS];
        /** By column: the row that leads there, or -1: then the column is free. */
        final int[] leader = new int[MOST_POINTS];
        final int[] unit = new int[MOST_POINTS];

        void take(Network net) {
            size = net.points;
            prime = net.prime;
            for (int i = 0; i < size; i++) {
                for (int j = 0; j < size; j++) {
                    cells[i][j] = modulo(net.numbers[i][j]);
                }
            }
        }

        private int modulo(int v) {
            if (prime < 1) {
                return 0;
            }
            int rest = v % prime;
            return rest < 0 ? rest + prime : rest;
        }

        /** Reduces the first rows among themselves and answers how many of them lead. */
        int reduce(int rows) {
            int leading = 0;
            for (int column = 0; column < size; column++) {
                leader[column] = -1;
                int found = firstWith(column, leading, rows);
                if (found >= 0) {
                    swapRows(found, leading);
                    leadWithOne(cells[leading], column);
                    for (int i = 0; i < rows; i++) {
                        if (i != leading) {
                            clear(cells[i], cells[leading], column);
                        }
                    }
                    leader[column] = leading;
                    leading++;
                }
            }
            return leading;
        }

        private int firstWith(int column, int from, int rows) {
            for (int i = from; i < rows; i++) {
                if (cells[i][column] != 0) {
                    return i;
                }
            }
            return -1;
        }

        private void swapRows(int i, int j) {
            int[] held = cells[i];
            cells[i] = cells[j];
            cells[j] = held;
        }

        private void leadWithOne(int[] line, int column) {
            int factor = inverseOf(line[column]);
            for (int j = 0; j < size; j++) {
                line[j] = modulo(line[j] * factor);
            }
        }

        private int inverseOf(int v) {
            for (int factor = 1; factor < prime; factor++) {
                if (modulo(v * factor) == 1) {
                    return factor;
                }
            }
            return 1;
        }

        private void clear(int[] line, int[] leading, int column) {
            int factor = line[column];
            if (factor == 0) {
                return;
            }
            for (int j = 0; j < size; j++) {
                line[j] = modulo(line[j] - factor * leading[j]);
            }
        }

        int freeColumn(int k) {
            int seen = 0;
            for (int column = 0; column < size; column++) {
                if (leader[column] < 0) {
                    if (seen == k) {
                        return column;
                    }
                    seen++;
                }
            }
            return -1;
        }

        /** Place i of the KERNEL's row that has 1 at a free column. */
        int noughtAt(int free, int i) {
            if (leader[i] < 0) {
                return i == free ? 1 : 0;
            }
            return modulo(-cells[leader[i]][free]);
        }

        /**
         * The number for a point with itself by which the rank is least; that rank is left in mendedRank.
         * The other rows are reduced once: the point's own row then counts or not, as it is nought beyond them.
         */
        int mendAt(int point) {
            int last = size - 1;
            swapRows(point, last);
            int[] own = cells[last];
            own[point] = 0;
            Arrays.fill(unit, 0);
            unit[point] = 1;
            int others = reduce(last);
            clearAll(own);
            clearAll(unit);
            for (int number = 0; number < prime; number++) {
                if (isNought(own, number)) {
                    mendedRank = others;
                    return number;
                }
            }
            mendedRank = others + 1;
            return 0;
        }

        private void clearAll(int[] line) {
            for (int column = 0; column < size; column++) {
                if (leader[column] >= 0) {
                    clear(line, cells[leader[column]], column);
                }
            }
        }

        private boolean isNought(int[] own, int number) {
            for (int j = 0; j < size; j++) {
                if (modulo(own[j] + number * unit[j]) != 0) {
                    return false;
                }
            }
            return true;
        }
    }

    /** A ROW: its size is -1 while it is missing. */
    private static final class Row {
        int size;
        final int[] places = new int[MOST_PLACES];

        Row() {
            size = -1;
        }

        boolean hasPlace(int i) {
            return i >= 0 && i < size;
        }
    }

    /** THE TAPE, and the place at which its text is being read. */
    private static final class Tape {
        int size;
        int at;
        /** How many ACTS were passed ahead of a FAULT, or are in the whole text. */
        int acts;
        final int[] bytes = new int[MOST_BYTES];

        boolean append(int letter) {
            if (size >= MOST_BYTES) {
                return false;
            }
            bytes[size] = letter;
            size++;
            return true;
        }

        /** How many numbers the ACT of a letter has; 0 if it is no ACT's letter. */
        static int numbersOf(int letter) {
            switch (letter) {
                case 'n':
                case 'm':
                    return 1;
                case 'l':
                case 'u':
                case 'P':
                case 'C':
                case 'k':
                case 'c':
                case 'r':
                    return 2;
                default:
                    return 0;
            }
        }

        /** The byte at a place, or -1 behind the end. */
        private int byteAt(int i) {
            return i < 0 || i >= size ? -1 : bytes[i];
        }

        private boolean hasFigure(int i) {
            return byteAt(i) >= '0' && byteAt(i) <= '9';
        }

        /** The first byte with which no text goes on, or the length if it ends too early; -1 if it is a text. */
        int findFault() {
            at = 0;
            acts = 0;
            for (int turn = 0; turn <= MOST_BYTES; turn++) {
                if (!passAct()) {
                    return at;
                }
                acts++;
                if (at >= size) {
                    return -1;
                }
                if (byteAt(at) != ';') {
                    return at;
                }
                at++;
            }
            return at;
        }

        /** Passes one ACT; if it is none, the tape stands at its FAULT. */
        private boolean passAct() {
            int numbers = numbersOf(byteAt(at));
            if (numbers == 0) {
                return false;
            }
            at++;
            if (!passNumber()) {
                return false;
            }
            if (numbers == 1) {
                return true;
            }
            if (byteAt(at) != ',') {
                return false;
            }
            at++;
            return passNumber();
        }

        private boolean passNumber() {
            if (!hasFigure(at)) {
                return false;
            }
            at += hasFigure(at + 1) ? 2 : 1;
            return true;
        }

        int nextByte() {
            int found = byteAt(at);
            at++;
            return found;
        }

        /** A number of one or two figures, and the comma or ; behind it. */
        int nextNumber() {
            int number = 0;
            for (int figure = 0; figure < 2 && hasFigure(at); figure++) {
                number = 10 * number + nextByte() - '0';
            }
            at++;
            return number;
        }
    }

    /** The BODIES of one POINT's ACT, and the numbers of those that ran. */
    private static final class Bodies {
        private static final int[] ABOVE = {-1, POINT, LEAF, POINT, HUB};

        int kind;
        int number;
        int cost;
        int size;
        final int[] ran = new int[MOST_TRACE];

        void begin(int ownKind, int ownNumber, int ownCost) {
            kind = ownKind;
            number = ownNumber;
            cost = ownCost;
            size = 0;
        }

        /** Whether a KIND is another one, or stands somewhere under it. */
        static boolean isUnder(int kind, int other) {
            int at = kind;
            for (int step = 0; step < KINDS && at >= 0 && at < KINDS; step++) {
                if (at == other) {
                    return true;
                }
                at = ABOVE[at];
            }
            return false;
        }

        private void note(int body) {
            if (size < MOST_TRACE) {
                ran[size] = body;
                size++;
            }
        }

        int asks(int x) {
            if (isUnder(kind, LEAF)) {
                note(20);
                return -pointAsks(x);
            }
            return pointAsks(x);
        }

        int says(int x) {
            if (isUnder(kind, STAR)) {
                note(40);
                return pointSays(x) ^ 5;
            }
            return pointSays(x);
        }

        int tells(int x) {
            if (isUnder(kind, RIM)) {
                note(50);
                return hubTells(x - 1) + cost;
            }
            return isUnder(kind, HUB) ? hubTells(x) : countedTells(x);
        }

        private int pointAsks(int x) {
            note(10);
            return x + number;
        }

        private int pointSays(int x) {
            note(11);
            return asks(x) * 2 + tells(1);
        }

        private int hubTells(int x) {
            note(30);
            return countedTells(x) * 3;
        }

        private int countedTells(int x) {
            note(1);
            return x + 2;
        }
    }
}
