import java.math.BigInteger;
import java.util.ArrayList;
import java.util.List;
import java.util.SortedSet;
import java.util.TreeSet;

/**
 * The document once more, written from its words with the Java library and without any care for speed:
 * sets are TreeSets, changes are whole states kept, ranks are counted column by column.
 * Its methods bear the names of the face, so that both can be asked the same.
 */
public final class Naive {
    private static final int BAD = -1, NOT = -2, FULL = -3, STATE = -5, VOID = Integer.MIN_VALUE;

    /** All that THE IMAGE holds, too. */
    private static final class State {
        int n = 4;
        boolean[][] line = new boolean[9][9];
        int[] kind = new int[9];
        int[] cost = new int[9];
        int rule = 0;
        int k = 1;
        int[][] table = new int[9][9];
        int prime = 11;

        State copy() {
            State s = new State();
            s.n = n;
            s.rule = rule;
            s.k = k;
            s.prime = prime;
            for (int i = 0; i < 9; i++) {
                s.kind[i] = kind[i];
                s.cost[i] = cost[i];
                for (int j = 0; j < 9; j++) {
                    s.line[i][j] = line[i][j];
                    s.table[i][j] = table[i][j];
                }
            }
            return s;
        }

        int lines() {
            int found = 0;
            for (int i = 0; i < n; i++) {
                for (int j = i + 1; j < n; j++) {
                    found += line[i][j] ? 1 : 0;
                }
            }
            return found;
        }

        SortedSet<Integer> all() {
            return setOf((1 << n) - 1);
        }

        SortedSet<Integer> neighbours(int i) {
            SortedSet<Integer> found = new TreeSet<>();
            for (int j = 0; j < n; j++) {
                if (line[i][j]) {
                    found.add(j);
                }
            }
            return found;
        }

        State without(int point) {
            State s = new State();
            s.n = n - 1;
            s.rule = rule;
            s.k = k;
            for (int i = 0; i < n - 1; i++) {
                for (int j = 0; j < n - 1; j++) {
                    s.line[i][j] = line[i < point ? i : i + 1][j < point ? j : j + 1];
                }
            }
            return s;
        }

        State turned(int a, int b) {
            State s = copy();
            s.line[a][b] = !s.line[a][b];
            s.line[b][a] = !s.line[b][a];
            return s;
        }
    }

    private State now = new State();
    private State kept = null;
    private final List<State> past = new ArrayList<>();
    private final List<State> ahead = new ArrayList<>();
    private final List<List<Integer>> rows = new ArrayList<>();
    private final StringBuilder tape = new StringBuilder();
    private List<Integer> trace = new ArrayList<>();

    public Naive() {
        rows.add(null);
        rows.add(null);
        rows.add(null);
    }

    // ---- sets

    private static SortedSet<Integer> setOf(int bits) {
        SortedSet<Integer> set = new TreeSet<>();
        for (int i = 0; i < 31; i++) {
            if ((bits & (1 << i)) != 0) {
                set.add(i);
            }
        }
        return set;
    }

    private static int bitsOf(SortedSet<Integer> set) {
        int bits = 0;
        for (int i : set) {
            bits += 1 << i;
        }
        return bits;
    }

    private static SortedSet<Integer> both(SortedSet<Integer> a, SortedSet<Integer> b) {
        SortedSet<Integer> set = new TreeSet<>(a);
        set.retainAll(b);
        return set;
    }

    private static SortedSet<Integer> less(SortedSet<Integer> a, SortedSet<Integer> b) {
        SortedSet<Integer> set = new TreeSet<>(a);
        set.removeAll(b);
        return set;
    }

    private boolean point(int i) {
        return 0 <= i && i <= now.n - 1;
    }

    private boolean set(int s) {
        return 0 <= s && s < Math.pow(2, now.n);
    }

    private boolean two(int a, int b) {
        return point(a) && point(b) && a != b;
    }

    // ---- changes

    private void keep() {
        past.add(now.copy());
        if (past.size() > 12) {
            past.remove(0);
        }
        ahead.clear();
    }

    private void forget() {
        past.clear();
        ahead.clear();
    }

    public int points(int n) {
        if (n < 1 || n > 9) {
            return BAD;
        }
        int was = now.n;
        State s = new State();
        s.n = n;
        s.rule = now.rule;
        s.k = now.k;
        s.prime = now.prime;
        now = s;
        forget();
        return was;
    }

    public int line(int a, int b, int is) {
        if (!two(a, b) || (is != 0 && is != 1)) {
            return BAD;
        }
        boolean was = now.line[a][b];
        if (was != (is == 1)) {
            keep();
            now.line[a][b] = is == 1;
            now.line[b][a] = is == 1;
            now.table[a][b] = is;
            now.table[b][a] = is;
        }
        return was ? 1 : 0;
    }

    public int kind(int point, int k) {
        if (!point(point) || k < 0 || k > 4) {
            return BAD;
        }
        int was = now.kind[point];
        if (was != k) {
            keep();
            now.kind[point] = k;
        }
        return was;
    }

    public int cost(int point, int v) {
        if (!point(point) || v < 0 || v > 9) {
            return BAD;
        }
        int was = now.cost[point];
        if (was != v) {
            keep();
            now.cost[point] = v;
        }
        return was;
    }

    public int rule(int rule, int k) {
        if (rule < 0 || rule > 4 || k < 1 || k > 4) {
            return BAD;
        }
        int was = 10 * now.rule + now.k;
        if (now.rule != rule || now.k != k) {
            keep();
            now.rule = rule;
            now.k = k;
        }
        return was;
    }

    private int counts(int i) {
        int one = now.cost[i] + 1;
        switch (now.kind[i]) {
            case 2: return 2 * one - 1;
            case 3: return (int) Math.ceil(one / 2.0);
            case 4: return 2 * one - 1 + 3;
            default: return one;
        }
    }

    public int of(int point, int what) {
        if (!point(point) || what < 0 || what > 4) {
            return BAD;
        }
        int[] told = {now.kind[point], now.cost[point], counts(point), now.neighbours(point).size(),
            bitsOf(now.neighbours(point))};
        return told[what];
    }

    // ---- rounds

    private static List<SortedSet<Integer>> parts(State s, SortedSet<Integer> among) {
        List<SortedSet<Integer>> parts = new ArrayList<>();
        SortedSet<Integer> left = new TreeSet<>(among);
        while (!left.isEmpty()) {
            SortedSet<Integer> part = new TreeSet<>();
            List<Integer> open = new ArrayList<>();
            open.add(left.first());
            while (!open.isEmpty()) {
                int at = open.remove(open.size() - 1);
                if (part.add(at)) {
                    open.addAll(both(s.neighbours(at), among));
                }
            }
            left.removeAll(part);
            parts.add(part);
        }
        return parts;
    }

    private static SortedSet<Integer> roundOf(State s, SortedSet<Integer> coloured, boolean first) {
        SortedSet<Integer> white = less(s.all(), coloured);
        SortedSet<Integer> result = new TreeSet<>(coloured);
        for (int i = 0; i < s.n; i++) {
            boolean is = coloured.contains(i);
            SortedSet<Integer> near = both(s.neighbours(i), white);
            if (s.rule == 0 && is && near.size() == 1) {
                result.addAll(near);
            }
            if (s.rule == 1 && near.size() == 1) {
                result.addAll(near);
            }
            if (s.rule == 2 && is) {
                for (SortedSet<Integer> part : parts(s, white)) {
                    if (both(near, part).size() == 1) {
                        result.addAll(both(near, part));
                    }
                }
            }
            if (s.rule == 3 && is && (first || near.size() == 1)) {
                result.addAll(near);
            }
            if (s.rule == 4 && is && near.size() <= s.k) {
                result.addAll(near);
            }
        }
        return result;
    }

    private static SortedSet<Integer> closureOf(State s, SortedSet<Integer> set) {
        SortedSet<Integer> at = new TreeSet<>(set);
        for (int i = 0; i < 20; i++) {
            at = roundOf(s, at, i == 0);
        }
        return at;
    }

    private static int timeOf(State s, SortedSet<Integer> set) {
        SortedSet<Integer> at = new TreeSet<>(set);
        for (int i = 0; i < 20; i++) {
            if (at.size() == s.n) {
                return i;
            }
            SortedSet<Integer> next = roundOf(s, at, i == 0);
            if (next.equals(at) && i > 0) {
                return NOT;
            }
            at = next;
        }
        return NOT;
    }

    public int round(int set) {
        return set(set) ? bitsOf(roundOf(now, setOf(set), true)) : BAD;
    }

    public int closure(int set) {
        return set(set) ? bitsOf(closureOf(now, setOf(set))) : BAD;
    }

    public int time(int set) {
        return set(set) ? timeOf(now, setOf(set)) : BAD;
    }

    private static int leastOf(State s) {
        int least = s.n;
        for (int set = 0; set < (1 << s.n); set++) {
            if (setOf(set).size() < least && timeOf(s, setOf(set)) >= 0) {
                least = setOf(set).size();
            }
        }
        return least;
    }

    public int least(int what) {
        if (what < 0 || what > 3) {
            return BAD;
        }
        int size = leastOf(now);
        int first = -1;
        int found = 0;
        int time = 1000;
        for (int set = 0; set < (1 << now.n); set++) {
            if (setOf(set).size() == size && timeOf(now, setOf(set)) >= 0) {
                first = first < 0 ? set : first;
                found++;
                time = Math.min(time, timeOf(now, setOf(set)));
            }
        }
        int[] told = {size, first, found, time};
        return told[what];
    }

    public int cheapest(int what) {
        if (what < 0 || what > 1) {
            return BAD;
        }
        int best = -1;
        int sum = 100000;
        for (int set = 0; set < (1 << now.n); set++) {
            int own = 0;
            for (int i : setOf(set)) {
                own += counts(i);
            }
            if (own < sum && timeOf(now, setOf(set)) >= 0) {
                best = set;
                sum = own;
            }
        }
        return what == 0 ? best : sum;
    }

    public int many(int k) {
        if (k < 0 || k > now.n) {
            return BAD;
        }
        int found = 0;
        for (int set = 0; set < (1 << now.n); set++) {
            found += setOf(set).size() == k && timeOf(now, setOf(set)) >= 0 ? 1 : 0;
        }
        return found;
    }

    public int throttle(int what) {
        if (what < 0 || what > 1) {
            return BAD;
        }
        int best = -1;
        int sum = 100000;
        for (int set = 0; set < (1 << now.n); set++) {
            int time = timeOf(now, setOf(set));
            if (time >= 0 && setOf(set).size() + time < sum) {
                best = set;
                sum = setOf(set).size() + time;
            }
        }
        return what == 0 ? sum : best;
    }

    public int spread(int point) {
        return point(point) ? leastOf(now) - leastOf(now.without(point)) : VOID;
    }

    public int lineSpread(int a, int b) {
        return two(a, b) ? leastOf(now) - leastOf(now.turned(a, b)) : VOID;
    }

    public int best(int what) {
        if (what < 0 || what > 1 || now.n == 1) {
            return VOID;
        }
        int whole = leastOf(now);
        int two = -1;
        int spread = -1000;
        for (int code = 1; code < 90; code++) {
            int a = code / 10;
            int b = code % 10;
            if (a < b && point(b) && whole - leastOf(now.turned(a, b)) > spread) {
                two = code;
                spread = whole - leastOf(now.turned(a, b));
            }
        }
        return what == 0 ? two : spread;
    }

    // ---- chains and forts

    private List<List<Integer>> chainsOf(int set) {
        List<List<Integer>> chains = new ArrayList<>();
        for (int i : setOf(set)) {
            chains.add(new ArrayList<>(List.of(i)));
        }
        SortedSet<Integer> coloured = setOf(set);
        boolean forced = true;
        while (forced) {
            forced = false;
            for (int who : new TreeSet<>(coloured)) {
                SortedSet<Integer> white = less(now.neighbours(who), coloured);
                if (white.size() == 1) {
                    for (List<Integer> chain : chains) {
                        if (chain.get(chain.size() - 1) == who) {
                            chain.add(white.first());
                            break;
                        }
                    }
                    coloured.add(white.first());
                    forced = true;
                    break;
                }
            }
        }
        return chains;
    }

    public int chain(int set, int point, int i) {
        if (!set(set) || !point(point) || !setOf(set).contains(point) || i < 0) {
            return BAD;
        }
        for (List<Integer> chain : chainsOf(set)) {
            if (chain.get(0) == point) {
                return i < chain.size() ? chain.get(i) : NOT;
            }
        }
        return NOT;
    }

    public int ends(int set) {
        if (!set(set)) {
            return BAD;
        }
        SortedSet<Integer> ends = new TreeSet<>();
        for (List<Integer> chain : chainsOf(set)) {
            ends.add(chain.get(chain.size() - 1));
        }
        return bitsOf(ends);
    }

    private boolean isFort(int bits) {
        SortedSet<Integer> set = setOf(bits);
        for (int i : less(now.all(), set)) {
            if (both(now.neighbours(i), set).size() == 1) {
                return false;
            }
        }
        return !set.isEmpty();
    }

    private boolean isInner(int set) {
        for (int other = 1; other < set; other++) {
            if (setOf(set).containsAll(setOf(other)) && isFort(other)) {
                return false;
            }
        }
        return isFort(set);
    }

    public int fort(int set) {
        if (!set(set)) {
            return BAD;
        }
        return isInner(set) ? 2 : isFort(set) ? 1 : 0;
    }

    public int forts(int k, int inner) {
        if (k < 0 || k > now.n || inner < 0 || inner > 1) {
            return BAD;
        }
        int found = 0;
        for (int set = 0; set < (1 << now.n); set++) {
            if (setOf(set).size() == k && isFort(set) && (inner == 0 || isInner(set))) {
                found++;
            }
        }
        return found;
    }

    public int innerFort(int i) {
        if (i < 0) {
            return BAD;
        }
        List<Integer> found = new ArrayList<>();
        for (int set = 0; set < (1 << now.n); set++) {
            if (isFort(set) && isInner(set)) {
                found.add(set);
            }
        }
        return i < found.size() ? found.get(i) : NOT;
    }

    public int meets(int set) {
        if (!set(set)) {
            return BAD;
        }
        for (int fort = 0; fort < (1 << now.n); fort++) {
            if (isFort(fort) && both(setOf(fort), setOf(set)).isEmpty()) {
                return 0;
            }
        }
        return 1;
    }

    // ---- the table

    public int table(int i, int j, int v) {
        if (!point(i) || !point(j) || v < -9 || v > 9) {
            return VOID;
        }
        if (i != j && ((now.line[i][j] && v == 0) || (!now.line[i][j] && v != 0))) {
            return -100;
        }
        int was = now.table[i][j];
        if (was != v) {
            keep();
            now.table[i][j] = v;
            now.table[j][i] = v;
        }
        return was;
    }

    public int entry(int i, int j) {
        return point(i) && point(j) ? now.table[i][j] : VOID;
    }

    public int prime(int p) {
        if (p < 11 || p > 31 || !BigInteger.valueOf(p).isProbablePrime(30)) {
            return BAD;
        }
        int was = now.prime;
        if (was != p) {
            keep();
            now.prime = p;
        }
        return was;
    }

    private int[] column(int[][] table, int j) {
        int[] column = new int[now.n];
        for (int i = 0; i < now.n; i++) {
            column[i] = Math.floorMod(table[i][j], now.prime);
        }
        return column;
    }

    private int inverse(int v) {
        return BigInteger.valueOf(v).modInverse(BigInteger.valueOf(now.prime)).intValue();
    }

    private static int firstOther(int[] column) {
        for (int i = 0; i < column.length; i++) {
            if (column[i] != 0) {
                return i;
            }
        }
        return -1;
    }

    /** A column less what the kept ones, each with its own first place, make of it. */
    private int[] lowered(List<int[]> basis, int[] column) {
        int[] left = column.clone();
        for (int[] one : basis) {
            int at = firstOther(one);
            int factor = left[at] * inverse(one[at]) % now.prime;
            for (int i = 0; i < left.length; i++) {
                left[i] = Math.floorMod(left[i] - factor * one[i], now.prime);
            }
        }
        return left;
    }

    /** The columns that do not depend on those ahead of them. */
    private List<Integer> ownColumns(int[][] table) {
        List<int[]> basis = new ArrayList<>();
        List<Integer> own = new ArrayList<>();
        for (int j = 0; j < now.n; j++) {
            int[] left = lowered(basis, column(table, j));
            if (firstOther(left) >= 0) {
                basis.add(left);
                own.add(j);
            }
        }
        return own;
    }

    public int rank(int what) {
        if (what < 0 || what > 1) {
            return BAD;
        }
        int rank = ownColumns(now.table).size();
        return what == 0 ? rank : now.n - rank;
    }

    public int kernel(int k, int i) {
        if (!point(i) || k < 0) {
            return BAD;
        }
        List<Integer> own = ownColumns(now.table);
        List<Integer> free = new ArrayList<>();
        for (int j = 0; j < now.n; j++) {
            if (!own.contains(j)) {
                free.add(j);
            }
        }
        if (k >= free.size()) {
            return NOT;
        }
        if (!own.contains(i)) {
            return free.get(k) == i ? 1 : 0;
        }
        // by the one column that is left to it: all others that lead are made nought in it
        List<int[]> basis = new ArrayList<>();
        for (int j : own) {
            if (j != i) {
                int[] left = lowered(basis, column(now.table, j));
                basis.add(left);
            }
        }
        int[] mine = lowered(basis, column(now.table, i));
        int[] its = lowered(basis, column(now.table, free.get(k)));
        int at = firstOther(mine);
        return Math.floorMod(-its[at] * inverse(mine[at]), now.prime);
    }

    private int rankWith(int a, int x, int b, int y) {
        int[][] table = now.copy().table;
        table[a][a] = x;
        table[b][b] = y;
        return ownColumns(table).size();
    }

    public int mend(int point, int what) {
        if (!point(point) || what < 0 || what > 1) {
            return BAD;
        }
        int best = -1;
        int rank = 100;
        for (int x = 0; x < now.prime; x++) {
            int own = rankWith(point, x, point, x);
            if (own < rank) {
                best = x;
                rank = own;
            }
        }
        return what == 0 ? best : rank;
    }

    public int mendTwo(int a, int b, int what) {
        if (!two(a, b) || what < 0 || what > 1) {
            return BAD;
        }
        int best = -1;
        int rank = 100;
        for (int code = 0; code < now.prime * now.prime; code++) {
            int own = rankWith(Math.min(a, b), code / now.prime, Math.max(a, b), code % now.prime);
            if (own < rank) {
                best = code;
                rank = own;
            }
        }
        return what == 0 ? best : rank;
    }

    // ---- fits and judge

    private static boolean follows(State s, List<Integer> told) {
        if (told.get(0) < 0 || told.get(0) > bitsOf(s.all())) {
            return false;
        }
        SortedSet<Integer> at = setOf(told.get(0));
        for (int i = 1; i < told.size(); i++) {
            at = roundOf(s, at, i == 1);
            if (told.get(i) != bitsOf(at)) {
                return false;
            }
        }
        return true;
    }

    public int fits(int row, int m, int what) {
        if (row < 0 || row > 2 || m < 1 || m > 40 || what < 0 || what > 1) {
            return BAD;
        }
        if (rows.get(row) == null) {
            return -11;
        }
        if (rows.get(row).size() < m) {
            return -13;
        }
        State s = now.copy();
        List<Integer> told = rows.get(row).subList(0, m);
        if (what == 1) {
            s.rule = 4;
            for (s.k = 1; s.k <= 4; s.k++) {
                if (follows(s, told)) {
                    return s.k;
                }
            }
            return NOT;
        }
        int bits = 0;
        for (s.rule = 0; s.rule < 5; s.rule++) {
            bits += follows(s, told) ? 1 << s.rule : 0;
        }
        return bits;
    }

    public int judge(int row) {
        if (row < 0 || row > 2) {
            return BAD;
        }
        List<Integer> told = rows.get(row);
        if (told == null) {
            return -11;
        }
        if (told.isEmpty()) {
            return STATE;
        }
        if (!set(told.get(0))) {
            return 0;
        }
        SortedSet<Integer> coloured = setOf(told.get(0));
        for (int at = 1; at < told.size(); at++) {
            int one = told.get(at);
            boolean forced = false;
            for (int who : coloured) {
                SortedSet<Integer> white = less(now.neighbours(who), coloured);
                forced |= white.size() == 1 && white.contains(one);
            }
            if (!forced) {
                return at;
            }
            coloured.add(one);
        }
        return -2;
    }

    public int undo() {
        if (past.isEmpty()) {
            return STATE;
        }
        ahead.add(now);
        now = past.remove(past.size() - 1);
        return past.size();
    }

    public int redo() {
        if (ahead.isEmpty()) {
            return STATE;
        }
        past.add(now);
        now = ahead.remove(ahead.size() - 1);
        return ahead.size();
    }

    // ---- the tape

    public int feed(int letter) {
        if (letter < 32 || letter > 126) {
            return BAD;
        }
        if (tape.length() == 80) {
            return FULL;
        }
        tape.append((char) letter);
        return tape.length();
    }

    public int wipe() {
        int was = tape.length();
        tape.setLength(0);
        return was;
    }

    private static boolean isText(String text) {
        return text.matches("([nm]\\d\\d?|[luPCkcr]\\d\\d?,\\d\\d?)(;([nm]\\d\\d?|[luPCkcr]\\d\\d?,\\d\\d?))*");
    }

    /** Whether some text starts so: tried with all that may be lacking at its end. */
    private static boolean starts(String text) {
        for (String rest : new String[] {"", "0", ",0", "n0", "0,0"}) {
            if (isText(text + rest)) {
                return true;
            }
        }
        return text.isEmpty();
    }

    private static int faultOf(String text) {
        for (int i = 0; i < text.length(); i++) {
            if (!starts(text.substring(0, i + 1))) {
                return i;
            }
        }
        return isText(text) ? -1 : text.length();
    }

    private int path(int a, int b, boolean closed) {
        if (!point(a) || !point(b) || (closed ? b < a + 2 : b <= a)) {
            return BAD;
        }
        for (int i = a; i < b; i++) {
            line(i, i + 1, 1);
        }
        return closed ? line(b, a, 1) : 0;
    }

    private int perform(String one) {
        String[] numbers = one.substring(1).split(",");
        int a = Integer.parseInt(numbers[0]);
        int b = numbers.length > 1 ? Integer.parseInt(numbers[1]) : 0;
        switch (one.charAt(0)) {
            case 'n': return points(a);
            case 'm': return prime(a);
            case 'l': return line(a, b, 1);
            case 'u': return line(a, b, 0);
            case 'P': return path(a, b, false);
            case 'C': return path(a, b, true);
            case 'k': return kind(a, b);
            case 'c': return cost(a, b);
            default: return rule(a, b);
        }
    }

    public int read() {
        String text = tape.toString();
        tape.setLength(0);
        int fault = faultOf(text);
        if (fault >= 0) {
            return -100 - fault;
        }
        int done = 0;
        for (String one : text.split(";")) {
            if (perform(one) == BAD) {
                return -200 - done;
            }
            done++;
        }
        return done;
    }

    // ---- rows

    public int row(int row, int n) {
        if (row < 0 || row > 2 || n > 40) {
            return BAD;
        }
        if (n < -1) {
            return -14;
        }
        rows.set(row, null);
        if (n >= 0) {
            List<Integer> told = new ArrayList<>();
            for (int i = 0; i < n; i++) {
                told.add(0);
            }
            rows.set(row, told);
        }
        return 1;
    }

    public int put(int row, int i, int v) {
        if (row < 0 || row > 2) {
            return BAD;
        }
        if (rows.get(row) == null) {
            return -11;
        }
        if (i < 0 || i >= rows.get(row).size()) {
            return -13;
        }
        rows.get(row).set(i, v);
        return 1;
    }

    public int get(int row, int i) {
        boolean there = row >= 0 && row <= 2 && rows.get(row) != null && i >= 0 && i < rows.get(row).size();
        return there ? rows.get(row).get(i) : VOID;
    }

    public int film(int row, int set, int m) {
        if (row < 0 || row > 2 || !set(set) || m < 0 || m > 39) {
            return BAD;
        }
        List<Integer> told = new ArrayList<>();
        SortedSet<Integer> at = setOf(set);
        told.add(set);
        for (int i = 0; i < m; i++) {
            at = roundOf(now, at, i == 0);
            told.add(bitsOf(at));
        }
        rows.set(row, told);
        return m + 1;
    }

    // ---- acts: real classes, so that Java itself says which body runs

    private interface Counted {
        List<Integer> trace();

        default int tells(int x) {
            trace().add(1);
            return x + 2;
        }
    }

    private static class PointBody implements Counted {
        int i;
        int m;
        final List<Integer> trace = new ArrayList<>();

        @Override
        public List<Integer> trace() {
            return trace;
        }

        int asks(int x) {
            trace.add(10);
            return x + i;
        }

        int says(int x) {
            trace.add(11);
            return asks(x) * 2 + tells(1);
        }
    }

    private static class LeafBody extends PointBody {
        @Override
        int asks(int x) {
            trace.add(20);
            return -super.asks(x);
        }
    }

    private static class HubBody extends LeafBody {
        @Override
        public int tells(int x) {
            trace.add(30);
            return super.tells(x) * 3;
        }
    }

    private static class StarBody extends PointBody {
        @Override
        int says(int x) {
            trace.add(40);
            return super.says(x) ^ 5;
        }
    }

    private static class RimBody extends HubBody {
        @Override
        public int tells(int x) {
            trace.add(50);
            return super.tells(x - 1) + m;
        }
    }

    private static final Class<?>[] BODIES = {PointBody.class, LeafBody.class, HubBody.class, StarBody.class,
        RimBody.class};

    public int act(int point, int act, int x) {
        if (!point(point) || act < 0 || act > 2) {
            return 0;
        }
        PointBody[] bodies = {new PointBody(), new LeafBody(), new HubBody(), new StarBody(), new RimBody()};
        PointBody body = bodies[now.kind[point]];
        body.i = point;
        body.m = now.cost[point];
        int answer = act == 0 ? body.asks(x) : act == 1 ? body.says(x) : body.tells(x);
        trace = body.trace;
        return answer;
    }

    public int trace(int i) {
        return i >= 0 && i < trace.size() && i < 24 ? trace.get(i) : NOT;
    }

    public int taken(int point, int k) {
        if (!point(point) || k < 0 || k > 4) {
            return BAD;
        }
        boolean is = BODIES[k].isAssignableFrom(BODIES[now.kind[point]]);
        return is ? now.cost[point] : STATE;
    }

    // ---- image and counts

    public int image() {
        kept = now.copy();
        return now.lines();
    }

    public int back() {
        if (kept == null) {
            return STATE;
        }
        now = kept.copy();
        forget();
        return now.lines();
    }

    public int count(int what) {
        if (what < 0 || what > 10) {
            return BAD;
        }
        int least = 100;
        int greatest = 0;
        for (int i = 0; i < now.n; i++) {
            least = Math.min(least, now.neighbours(i).size());
            greatest = Math.max(greatest, now.neighbours(i).size());
        }
        int[] told = {now.n, now.lines(), now.rule, now.k, now.prime, least, greatest,
            parts(now, now.all()).size(), past.size(), ahead.size(), tape.length()};
        return told[what];
    }
}
