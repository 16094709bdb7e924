/**
 * At least one test for each promise, by answers found by hand: ordinary ones, the document's edges, wrong arguments,
 * and of several refusals the first.
 */
public final class PromiseTests {
    private static final int BAD = -1, NOT = -2, FULL = -3, STATE = -5, VOID = Integer.MIN_VALUE;

    private static String at = "";

    private PromiseTests() {
    }

    private static void is(String call, int got, int want) {
        Check.due(at + ": " + call, got, want);
    }

    private static int say(ZeroForcer x, String text) {
        for (char letter : text.toCharArray()) {
            x.feed(letter);
        }
        return x.read();
    }

    private static ZeroForcer made(String text) {
        ZeroForcer x = new ZeroForcer();
        Check.holds("the text " + text + " is done", say(x, text) > 0);
        return x;
    }

    private static void tell(ZeroForcer x, int row, int... places) {
        x.row(row, places.length);
        for (int i = 0; i < places.length; i++) {
            x.put(row, i, places[i]);
        }
    }

    /** Three arms of two points at one head, at which PARTED is stronger than PLAIN. */
    private static ZeroForcer spider() {
        return made("n7;P0,2;l0,3;P3,4;l0,5;P5,6");
    }

    private static void promise1() {
        at = "1 ZeroForcer()";
        ZeroForcer x = new ZeroForcer();
        int[] first = {4, 0, 0, 1, 11, 0, 0, 4, 0, 0, 0};
        for (int what = 0; what < first.length; what++) {
            is("count(" + what + ")", x.count(what), first[what]);
        }
        for (int i = 0; i < 4; i++) {
            is("kind", x.of(i, 0), 0);
            is("cost", x.of(i, 1), 0);
            is("entry", x.entry(i, 3), 0);
        }
        is("get", x.get(0, 0), VOID);
        is("back", x.back(), STATE);
        is("undo", x.undo(), STATE);
        is("redo", x.redo(), STATE);
        is("trace", x.trace(0), NOT);
        is("BAD", ZeroForcer.BAD, -1);
        is("NOT", ZeroForcer.NOT, -2);
        is("FULL", ZeroForcer.FULL, -3);
        is("STATE", ZeroForcer.STATE, -5);
        is("VOID", ZeroForcer.VOID, Integer.MIN_VALUE);
    }

    private static void promise2() {
        at = "2 points";
        ZeroForcer x = made("C0,3;k1,2;c1,5;r4,3;m13");
        x.table(0, 0, 7);
        x.row(1, 3);
        x.image();
        x.act(1, 0, 1);
        x.feed('n');
        is("points(0)", x.points(0), BAD);
        is("points(10)", x.points(10), BAD);
        is("undone still", x.count(8) > 0 ? 1 : 0, 1);
        is("points(9)", x.points(9), 4);
        is("points", x.count(0), 9);
        is("lines", x.count(1), 0);
        is("kind", x.of(1, 0), 0);
        is("cost", x.of(1, 1), 0);
        is("entry", x.entry(0, 0), 0);
        is("changes", x.count(8), 0);
        is("rule stays", x.count(2), 4);
        is("k stays", x.count(3), 3);
        is("prime stays", x.count(4), 13);
        is("row stays", x.get(1, 2), 0);
        is("tape stays", x.count(10), 1);
        is("trace stays", x.trace(0), 20);
        is("image stays", x.back(), 4);
        x.line(0, 2, 1);
        x.undo();
        is("points(1)", x.points(1), 4);
        is("none to redo", x.redo(), STATE);
        is("points(1)", x.points(1), 1);
    }

    private static void promise3() {
        at = "3 line";
        ZeroForcer x = new ZeroForcer();
        is("line(1, 3, 1)", x.line(1, 3, 1), 0);
        is("line(3, 1, 1)", x.line(3, 1, 1), 1);
        is("entry", x.entry(3, 1), 1);
        is("one change", x.count(8), 1);
        x.table(1, 3, -4);
        is("line again", x.line(1, 3, 1), 1);
        is("its number stays", x.entry(1, 3), -4);
        is("line(1, 3, 0)", x.line(1, 3, 0), 1);
        is("its number goes", x.entry(3, 1), 0);
        is("line(3, 1, 0)", x.line(3, 1, 0), 0);
        is("neighbours", x.of(1, 4), 0);
        is("a is b", x.line(2, 2, 1), BAD);
        is("a", x.line(-1, 2, 1), BAD);
        is("b", x.line(0, 4, 1), BAD);
        is("is 2", x.line(0, 1, 2), BAD);
        is("is -1", x.line(0, 1, -1), BAD);
    }

    private static void promises4to6() {
        at = "4 kind";
        ZeroForcer x = new ZeroForcer();
        is("kind(3, 4)", x.kind(3, 4), 0);
        is("kind(3, 0)", x.kind(3, 0), 4);
        is("kind(4, 0)", x.kind(4, 0), BAD);
        is("kind(-1, 0)", x.kind(-1, 0), BAD);
        is("kind(0, 5)", x.kind(0, 5), BAD);
        is("kind(0, -1)", x.kind(0, -1), BAD);
        at = "5 cost";
        is("cost(0, 9)", x.cost(0, 9), 0);
        is("cost(0, 3)", x.cost(0, 3), 9);
        is("cost(0, 10)", x.cost(0, 10), BAD);
        is("cost(0, -1)", x.cost(0, -1), BAD);
        is("cost(4, 1)", x.cost(4, 1), BAD);
        is("cost", x.of(0, 1), 3);
        at = "6 rule";
        is("rule(4, 4)", x.rule(4, 4), 1);
        is("rule(0, 2)", x.rule(0, 2), 44);
        is("rule(5, 1)", x.rule(5, 1), BAD);
        is("rule(-1, 1)", x.rule(-1, 1), BAD);
        is("rule(1, 0)", x.rule(1, 0), BAD);
        is("rule(1, 5)", x.rule(1, 5), BAD);
        is("rule(3, 2)", x.rule(3, 2), 2);
    }

    private static void promise7() {
        at = "7 of";
        ZeroForcer x = made("n5;P0,4;k1,1;k2,2;k3,3;k4,4");
        // COST 4, so COST and 1 is 5
        int[] counts = {5, 5, 9, 3, 12};
        for (int i = 0; i < 5; i++) {
            x.cost(i, 4);
            is("counts of kind " + i, x.of(i, 2), counts[i]);
            is("kind", x.of(i, 0), i);
            is("cost", x.of(i, 1), 4);
        }
        x.cost(3, 0);
        is("half of 1, up", x.of(3, 2), 1);
        x.cost(3, 9);
        is("half of 10", x.of(3, 2), 5);
        is("degree of an end", x.of(0, 3), 1);
        is("degree", x.of(2, 3), 2);
        is("neighbours", x.of(2, 4), 10);
        is("of(5, 0)", x.of(5, 0), BAD);
        is("of(-1, 0)", x.of(-1, 0), BAD);
        is("of(0, 5)", x.of(0, 5), BAD);
        is("of(0, -1)", x.of(0, -1), BAD);
    }

    private static void promise8() {
        at = "8 round";
        ZeroForcer x = made("n5;P0,4");
        is("an end", x.round(1), 3);
        is("the middle", x.round(4), 4);
        is("two together force both ways", x.round(12), 30);
        is("none", x.round(0), 0);
        is("all", x.round(31), 31);
        is("too great", x.round(32), BAD);
        is("below 0", x.round(-1), BAD);
        x.rule(1, 1);
        is("SKEW from nothing", x.round(0), 10);
        x.rule(2, 1);
        is("PARTED in each part", x.round(4), 14);
        x.rule(3, 1);
        is("WIDE", x.round(4), 14);
        x.rule(4, 1);
        is("MANY 1", x.round(4), 4);
        x.rule(4, 2);
        is("MANY 2", x.round(4), 14);
        ZeroForcer y = spider();
        is("PLAIN at the head", y.round(1), 1);
        y.rule(2, 1);
        is("PARTED at the head", y.round(1), 43);
        y.rule(4, 2);
        is("MANY 2 at the head", y.round(1), 1);
        y.rule(4, 3);
        is("MANY 3 at the head", y.round(1), 43);
    }

    private static void promises9and10() {
        at = "9 closure";
        ZeroForcer x = made("n6;P0,4");
        is("a path from its end", x.closure(1), 31);
        is("from the middle", x.closure(4), 4);
        is("from two", x.closure(6), 31);
        is("none", x.closure(0), 0);
        is("all", x.closure(63), 63);
        is("64", x.closure(64), BAD);
        is("-1", x.closure(-1), BAD);
        at = "10 time";
        is("the last point is alone", x.time(31), NOT);
        is("all", x.time(63), 0);
        is("from an end", x.time(33), 4);
        is("64", x.time(64), BAD);
        is("-1", x.time(-1), BAD);
        x.rule(3, 1);
        is("WIDE, first round counts", x.time(36), 2);
        is("WIDE, nothing to do", x.time(63), 0);
        is("WIDE, first round does nothing", x.time(31), NOT);
        at = "9 closure";
        is("WIDE goes on as PLAIN", x.closure(1), 31);
        x.rule(1, 1);
        is("SKEW of a path of five from nothing", x.closure(0), 10);
        ZeroForcer y = made("P0,3");
        y.rule(1, 4);
        is("SKEW of a path of four from nothing", y.closure(0), 15);
        at = "10 time";
        is("SKEW from nothing", y.time(0), 2);
    }

    private static void promise11() {
        at = "11 least";
        ZeroForcer x = made("n6;P0,5");
        int[] path = {1, 1, 2, 5};
        ZeroForcer y = made("n6;C0,5");
        int[] ring = {2, 3, 6, 2};
        ZeroForcer z = made("n5;C0,4;l0,2;l0,3;l1,3;l1,4;l2,4");
        int[] whole = {4, 15, 5, 1};
        ZeroForcer empty = new ZeroForcer();
        int[] none = {4, 15, 1, 0};
        ZeroForcer skew = made("n2;l0,1;r1,1");
        int[] two = {0, 0, 1, 1};
        for (int what = 0; what < 4; what++) {
            is("a path", x.least(what), path[what]);
            is("a ring", y.least(what), ring[what]);
            is("all lines", z.least(what), whole[what]);
            is("no lines", empty.least(what), none[what]);
            is("SKEW", skew.least(what), two[what]);
        }
        is("least(4)", x.least(4), BAD);
        is("least(-1)", x.least(-1), BAD);
    }

    private static void promise12() {
        at = "12 cheapest";
        ZeroForcer x = made("P0,3");
        is("the set", x.cheapest(0), 1);
        is("the sum", x.cheapest(1), 1);
        x.cost(0, 3);
        is("the other end", x.cheapest(0), 8);
        x.cost(3, 5);
        is("two in the middle", x.cheapest(0), 6);
        is("their sum", x.cheapest(1), 2);
        x.kind(0, 3);
        is("half of 4 is as much: the lesser number", x.cheapest(0), 1);
        is("the sum", x.cheapest(1), 2);
        is("cheapest(2)", x.cheapest(2), BAD);
        is("cheapest(-1)", x.cheapest(-1), BAD);
    }

    private static void promises13and14() {
        at = "13 many";
        ZeroForcer x = made("P0,3");
        int[] many = {0, 2, 6, 4, 1};
        for (int k = 0; k < many.length; k++) {
            is("many(" + k + ")", x.many(k), many[k]);
        }
        is("many(5)", x.many(5), BAD);
        is("many(-1)", x.many(-1), BAD);
        at = "14 throttle";
        ZeroForcer y = made("n9;P0,8");
        is("the sum of the two ends of a path of four", x.throttle(0), 3);
        is("the set", x.throttle(1), 6);
        is("of a path of nine", y.throttle(0), 5);
        is("throttle(2)", x.throttle(2), BAD);
        is("throttle(-1)", x.throttle(-1), BAD);
        ZeroForcer z = made("n2;l0,1;r1,1");
        is("the empty set is one, too", z.throttle(1), 0);
        is("its sum", z.throttle(0), 1);
    }

    private static void promises15and16() {
        at = "15 spread";
        ZeroForcer x = made("n5;P0,4");
        is("an end", x.spread(0), 0);
        is("the middle parts it", x.spread(2), -1);
        is("spread(5)", x.spread(5), VOID);
        is("spread(-1)", x.spread(-1), VOID);
        ZeroForcer star = made("n5;l0,1;l0,2;l0,3;l0,4");
        is("the head of a star", star.spread(0), -1);
        is("an arm", star.spread(1), 1);
        ZeroForcer one = made("n1");
        is("of one point", one.spread(0), 1);
        ZeroForcer wide = made("n6;P0,5;l0,5;r3,1");
        is("by WIDE a gap in the numbers", wide.spread(1), 0);
        at = "16 lineSpread";
        is("the ring closes", x.lineSpread(4, 0), -1);
        is("the path breaks", x.lineSpread(1, 2), -1);
        is("of a ring", made("n5;C0,4").lineSpread(0, 1), 1);
        is("a is b", x.lineSpread(1, 1), VOID);
        is("b", x.lineSpread(0, 5), VOID);
        is("a", x.lineSpread(-1, 0), VOID);
        is("nothing is left of it", x.count(1), 4);
    }

    private static void promise17() {
        at = "17 best";
        ZeroForcer x = made("n3");
        is("which two", x.best(0), 1);
        is("their spread", x.best(1), 1);
        ZeroForcer y = made("n4;l0,1;l1,2");
        is("the lone point", y.best(0), 3);
        is("its spread", y.best(1), 1);
        ZeroForcer path = made("n3;P0,2");
        is("a spread below 0 everywhere", path.best(1), -1);
        is("the least such", path.best(0), 1);
        is("best(2)", x.best(2), VOID);
        is("best(-1)", x.best(-1), VOID);
        is("one point", made("n1").best(0), VOID);
        is("one point", made("n1").best(1), VOID);
    }

    private static void promises18and19() {
        at = "18 chain";
        ZeroForcer x = made("n6;P0,5");
        x.rule(1, 2);
        for (int i = 0; i < 6; i++) {
            is("the whole path, by PLAIN", x.chain(1, 0, i), i);
        }
        is("too long", x.chain(1, 0, 6), NOT);
        is("far too long", x.chain(1, 0, Integer.MAX_VALUE), NOT);
        // 2 forces 1 and 1 forces 0 ahead of what 3 could do
        is("the least goes first", x.chain(12, 2, 2), 0);
        is("the other", x.chain(12, 3, 2), 5);
        is("i below 0", x.chain(1, 0, -1), BAD);
        is("not in it", x.chain(1, 1, 0), BAD);
        is("no point", x.chain(1, 6, 0), BAD);
        is("no point", x.chain(63, 6, 0), BAD);
        is("no point", x.chain(1, -1, 0), BAD);
        is("no set", x.chain(64, 0, 0), BAD);
        at = "19 ends";
        is("one chain", x.ends(1), 32);
        is("two", x.ends(12), 33);
        is("nobody forces", x.ends(4), 4);
        is("nothing", x.ends(0), 0);
        is("64", x.ends(64), BAD);
        is("-1", x.ends(-1), BAD);
        // both could force 2: 0 does
        ZeroForcer y = made("n3;l0,2;l1,2");
        is("one of two", y.ends(3), 6);
    }

    private static void promises20to23() {
        at = "20 fort";
        ZeroForcer x = made("n5;P0,4;r3,1");
        is("every other", x.fort(21), 2);
        is("all", x.fort(31), 1);
        is("empty", x.fort(0), 0);
        is("an end", x.fort(1), 0);
        is("32", x.fort(32), BAD);
        is("-1", x.fort(-1), BAD);
        at = "21 forts";
        // without two neighbouring gaps, and with both ends
        int[] forts = {0, 0, 0, 1, 3, 1};
        for (int k = 0; k <= 5; k++) {
            is("forts(" + k + ", 0)", x.forts(k, 0), forts[k]);
            is("forts(" + k + ", 1)", x.forts(k, 1), k == 3 || k == 4 ? x.forts(k, 1) : 0);
        }
        is("inner of 3", x.forts(3, 1), 1);
        is("inner of 4", x.forts(4, 1), 1);
        is("k 6", x.forts(6, 0), BAD);
        is("k -1", x.forts(-1, 0), BAD);
        is("inner 2", x.forts(1, 2), BAD);
        is("inner -1", x.forts(1, -1), BAD);
        at = "22 innerFort";
        is("the first", x.innerFort(0), 21);
        is("the second", x.innerFort(1), 27);
        is("no third", x.innerFort(2), NOT);
        is("below 0", x.innerFort(-1), BAD);
        is("far", x.innerFort(Integer.MAX_VALUE), NOT);
        at = "23 meets";
        is("an end", x.meets(1), 1);
        is("the middle", x.meets(4), 0);
        is("two in the middle", x.meets(6), 1);
        is("nothing", x.meets(0), 0);
        is("32", x.meets(32), BAD);
        is("-1", x.meets(-1), BAD);
    }

    private static void promises24and25() {
        at = "24 table";
        ZeroForcer x = made("n3;l0,1");
        is("a line's", x.table(1, 0, -9), 1);
        is("both ways", x.entry(0, 1), -9);
        is("with itself", x.table(2, 2, 9), 0);
        is("with itself back to 0", x.table(2, 2, 0), 9);
        is("0 at a line", x.table(0, 1, 0), -100);
        is("not 0 at none", x.table(0, 2, 3), -100);
        is("0 at none", x.table(0, 2, 0), 0);
        is("10", x.table(0, 1, 10), VOID);
        is("-10, and no line either", x.table(0, 2, -10), VOID);
        is("i", x.table(3, 0, 1), VOID);
        is("j", x.table(0, -1, 1), VOID);
        is("changes: the line and three", x.count(8), 4);
        at = "25 entry";
        is("entry", x.entry(0, 1), -9);
        is("i", x.entry(3, 0), VOID);
        is("j", x.entry(0, 3), VOID);
        is("i below", x.entry(-1, 0), VOID);
    }

    private static void promise26() {
        at = "26 prime";
        ZeroForcer x = new ZeroForcer();
        int was = 11;
        for (int p : new int[] {13, 17, 19, 23, 29, 31, 11}) {
            is("prime", x.prime(p), was);
            was = p;
        }
        for (int p : new int[] {7, 12, 37, 0, -11, 33}) {
            is("prime(" + p + ")", x.prime(p), BAD);
        }
    }

    private static void promises27and28() {
        at = "27 rank";
        ZeroForcer x = made("n3;P0,2");
        is("a path of three", x.rank(0), 2);
        is("nullity", x.rank(1), 1);
        is("rank(2)", x.rank(2), BAD);
        is("rank(-1)", x.rank(-1), BAD);
        at = "28 kernel";
        // 1 0 -1, but the free one is the last: -1 0 1
        is("place 0", x.kernel(0, 0), 10);
        is("place 1", x.kernel(0, 1), 0);
        is("place 2", x.kernel(0, 2), 1);
        is("row 1", x.kernel(1, 0), NOT);
        is("row -1", x.kernel(-1, 0), BAD);
        is("place 3", x.kernel(0, 3), BAD);
        is("place -1 of no row", x.kernel(9, -1), BAD);
        x.prime(31);
        is("by 31", x.kernel(0, 0), 30);
        // 2 and 5 above 5 and 7
        ZeroForcer y = made("n2;l0,1");
        y.table(0, 0, 2);
        y.table(0, 1, 5);
        y.table(1, 1, 7);
        at = "27 rank";
        is("2 * 7 less 25 is -11: nought by 11", y.rank(0), 1);
        at = "28 kernel";
        is("by 11: 2 x + 5 is 0", y.kernel(0, 0), 3);
        y.prime(13);
        at = "27 rank";
        is("not by 13", y.rank(0), 2);
        ZeroForcer z = made("n3");
        is("nothing told", z.rank(1), 3);
        at = "28 kernel";
        is("a row of its own each", z.kernel(2, 2), 1);
        is("0 at the others", z.kernel(2, 1), 0);
    }

    private static void promises29and30() {
        at = "29 mend";
        ZeroForcer x = made("n2;l0,1");
        x.table(0, 0, 2);
        x.table(0, 1, 5);
        // 25 by 2: 25 is 3, and the half of 3 by 11 is 7
        is("the number", x.mend(1, 0), 7);
        is("the rank", x.mend(1, 1), 1);
        // 0 with itself: no number for the other makes it nought
        is("the least of like ones", x.mend(0, 0), 0);
        is("the rank", x.mend(0, 1), 2);
        is("mend(2, 0)", x.mend(2, 0), BAD);
        is("mend(-1, 0)", x.mend(-1, 0), BAD);
        is("mend(0, 2)", x.mend(0, 2), BAD);
        is("mend(0, -1)", x.mend(0, -1), BAD);
        is("nothing is changed", x.entry(1, 1), 0);
        at = "30 mendTwo";
        // both free: 1 for the lesser, 25 by 1 is 3 for the greater
        is("the two", x.mendTwo(0, 1, 0), 11 + 3);
        is("told the other way", x.mendTwo(1, 0, 0), 11 + 3);
        is("the rank", x.mendTwo(1, 0, 1), 1);
        x.prime(13);
        is("by 13", x.mendTwo(0, 1, 0), 13 + 12);
        is("no lines", made("n3").mendTwo(0, 2, 0), 0);
        is("no lines", made("n3").mendTwo(0, 2, 1), 0);
        is("a is b", x.mendTwo(1, 1, 0), BAD);
        is("b", x.mendTwo(0, 2, 0), BAD);
        is("a", x.mendTwo(-1, 0, 0), BAD);
        is("what", x.mendTwo(0, 1, 2), BAD);
        is("what", x.mendTwo(0, 1, -1), BAD);
    }

    private static void promise31() {
        at = "31 fits";
        ZeroForcer x = made("n5;P0,4");
        is("missing", x.fits(0, 1, 0), -11);
        tell(x, 0, 1, 3, 7);
        is("PLAIN, PARTED, WIDE and MANY of K 1", x.fits(0, 3, 0), 29);
        is("K", x.fits(0, 3, 1), 1);
        tell(x, 0, 4, 14, 31);
        is("PARTED and WIDE, K is 1", x.fits(0, 3, 0), 12);
        is("but K 2", x.fits(0, 3, 1), 2);
        x.rule(0, 3);
        is("MANY, too, with K 3", x.fits(0, 3, 0), 28);
        is("one place: every rule", x.fits(0, 1, 0), 31);
        is("one place: K 1", x.fits(0, 1, 1), 1);
        tell(x, 0, 4, 4, 4, 4);
        is("PLAIN alone", x.fits(0, 4, 0), 1);
        is("K 1", x.fits(0, 4, 1), 1);
        tell(x, 0, 1, 1);
        is("none", x.fits(0, 2, 0), 0);
        is("no K", x.fits(0, 2, 1), NOT);
        tell(x, 0, 32);
        is("no set", x.fits(0, 1, 0), 0);
        is("no set, no K", x.fits(0, 1, 1), NOT);
        tell(x, 0, -1);
        is("no set", x.fits(0, 1, 0), 0);
        is("not so many places", x.fits(0, 2, 0), -13);
        tell(x, 0);
        is("no place, but not missing", x.fits(0, 1, 0), -13);
        is("m 0", x.fits(0, 0, 0), BAD);
        is("m 41", x.fits(0, 41, 0), BAD);
        is("m 40", x.fits(0, 40, 0), -13);
        is("what", x.fits(1, 1, 2), BAD);
        is("what", x.fits(1, 1, -1), BAD);
        is("row", x.fits(3, 1, 0), BAD);
        is("row", x.fits(-1, 1, 0), BAD);
        is("rule stays", x.count(2), 0);
        is("k stays", x.count(3), 3);
    }

    private static void promise32() {
        at = "32 judge";
        ZeroForcer x = made("P0,3;r4,4");
        is("missing", x.judge(2), -11);
        x.row(2, 0);
        is("no place", x.judge(2), STATE);
        tell(x, 2, 1, 1, 2, 3);
        is("well", x.judge(2), -2);
        tell(x, 2, 15);
        is("only the set", x.judge(2), -2);
        tell(x, 2, 0, 0);
        is("nobody is there to force", x.judge(2), 1);
        tell(x, 2, 1, 1, 1);
        is("coloured already", x.judge(2), 2);
        tell(x, 2, 1, 1, 3);
        is("nobody can", x.judge(2), 2);
        tell(x, 2, 1, 4);
        is("no point", x.judge(2), 1);
        tell(x, 2, 1, -1);
        is("no point", x.judge(2), 1);
        tell(x, 2, 1, 33);
        is("no point, far off", x.judge(2), 1);
        tell(x, 2, 16, 1);
        is("no set", x.judge(2), 0);
        tell(x, 2, -1);
        is("no set", x.judge(2), 0);
        is("row 3", x.judge(3), BAD);
        is("row -1", x.judge(-1), BAD);
    }

    private static void promises33and34() {
        at = "33 undo";
        ZeroForcer x = new ZeroForcer();
        x.line(0, 1, 1);
        x.table(0, 1, 5);
        x.line(0, 1, 0);
        x.kind(2, 3);
        x.cost(2, 4);
        x.rule(4, 2);
        x.prime(31);
        x.prime(31);
        x.table(1, 1, 0);
        is("told again is none", x.count(8), 7);
        is("undo", x.undo(), 6);
        is("prime", x.count(4), 11);
        is("undo", x.undo(), 5);
        is("rule", x.count(2), 0);
        is("k", x.count(3), 1);
        is("undo", x.undo(), 4);
        is("cost", x.of(2, 1), 0);
        is("undo", x.undo(), 3);
        is("kind", x.of(2, 0), 0);
        is("undo", x.undo(), 2);
        is("the line's number comes back", x.entry(1, 0), 5);
        is("the line comes back", x.of(0, 4), 2);
        is("undo", x.undo(), 1);
        is("as the line came", x.entry(1, 0), 1);
        is("undo", x.undo(), 0);
        is("no line", x.count(1), 0);
        is("undo", x.undo(), STATE);
        at = "34 redo";
        is("seven", x.count(9), 7);
        for (int left = 6; left >= 0; left--) {
            is("redo", x.redo(), left);
        }
        is("redo", x.redo(), STATE);
        is("all is there", x.count(4) + x.of(2, 1) + x.of(2, 0) + 10 * x.count(2) + x.entry(0, 1), 31 + 4 + 3 + 40);
        x.undo();
        x.prime(11);
        is("what is so already leaves them", x.count(9), 1);
        x.cost(9, 1);
        is("what is refused, too", x.count(9), 1);
        x.cost(0, 1);
        is("another change does not", x.redo(), STATE);
        at = "33 undo";
        ZeroForcer y = new ZeroForcer();
        for (int i = 1; i <= 9; i++) {
            y.cost(0, i);
            y.cost(1, i);
        }
        is("twelve at most", y.count(8), 12);
        for (int i = 0; i < 12; i++) {
            y.undo();
        }
        is("the eldest stay done", 10 * y.of(0, 1) + y.of(1, 1), 33);
        is("none", y.undo(), STATE);
        at = "34 redo";
        is("twelve", y.redo(), 11);
        is("the eldest first", y.of(0, 1), 4);
        y.points(4);
        is("points leave none", y.redo(), STATE);
    }

    private static void promises35and36() {
        at = "35 feed";
        ZeroForcer x = new ZeroForcer();
        is("31", x.feed(31), BAD);
        is("127", x.feed(127), BAD);
        is("32", x.feed(32), 1);
        is("126", x.feed(126), 2);
        for (int i = 3; i <= 80; i++) {
            is("feed", x.feed('0'), i);
        }
        is("full", x.feed('0'), FULL);
        is("full and bad", x.feed(127), BAD);
        at = "36 wipe";
        is("wipe", x.wipe(), 80);
        is("empty", x.count(10), 0);
        is("wipe", x.wipe(), 0);
        is("an empty text", x.read(), -100);
    }

    private static void promise37() {
        at = "37 read";
        ZeroForcer x = new ZeroForcer();
        String[] faults = {"", "x", " n4", "n", "n123", "n1,", "n1 ", "n1;", "l", "l1", "l1,", "l1,2,", "l1,234", "l1;2",
            "l,1", "N1", "n4;;n4", "l1,2;c", "l11,22", "m11;q", "n4;l0,1x"};
        int[] where = {0, 0, 0, 1, 3, 2, 2, 3, 1, 2, 3, 4, 5, 2, 1, 0, 3, 6, -1, 4, 7};
        for (int i = 0; i < faults.length; i++) {
            is("'" + faults[i] + "'", say(x, faults[i]), where[i] < 0 ? -200 : -100 - where[i]);
            is("the tape is empty", x.count(10), 0);
        }
        is("nothing was done for a fault", x.count(1), 0);
        is("figures with a 0 ahead", say(x, "n05;l00,04"), 2);
        is("a line", x.of(0, 4), 16);
        is("a path", say(x, "P1,3"), 1);
        is("its changes", x.count(8), 3);
        is("a ring adds what is not there", say(x, "C1,3"), 1);
        is("one", x.count(8), 4);
        is("between b and a", x.of(1, 4), 12);
        is("none", say(x, "u1,3"), 1);
        is("no line", x.of(1, 4), 4);
        is("P with b not above a", say(x, "P2,2"), -200);
        is("C with b too low", say(x, "C0,1"), -200);
        is("P out of range does nothing", say(x, "P3,5"), -200);
        is("so", x.of(3, 4), 4);
        is("those ahead are done", say(x, "k0,4;c0,9;c0,10;k1,1"), -202);
        is("kind", x.of(0, 0), 4);
        is("cost", x.of(0, 1), 9);
        is("those behind are not", x.of(1, 0), 0);
        is("rule and prime", say(x, "r4,4;m31"), 2);
        is("rule", x.count(2), 4);
        is("prime", x.count(4), 31);
        is("no prime", say(x, "m12"), -200);
        is("points forget", say(x, "n9"), 1);
        is("nothing to undo", x.undo(), STATE);
        is("a path of nine", say(x, "C0,8;c0,1;c1,1;c2,1;c3,1"), 5);
        is("thirteen changes", x.count(8), 12);
        String full = "n9;".repeat(26) + "n9";
        is("eighty bytes", say(x, full), 27);
        is("too early at eighty", say(x, "n9;".repeat(26) + "l1"), -180);
    }

    private static void promises38to40() {
        at = "38 row";
        ZeroForcer x = new ZeroForcer();
        is("row(0, 40)", x.row(0, 40), 1);
        is("row(0, 41)", x.row(0, 41), BAD);
        is("row(3, 0)", x.row(3, 0), BAD);
        is("row(-1, -2)", x.row(-1, -2), BAD);
        is("row(0, -2)", x.row(0, -2), -14);
        is("it stays", x.get(0, 39), 0);
        at = "39 put";
        is("put", x.put(0, 39, Integer.MIN_VALUE + 1), 1);
        is("put(0, 40, 1)", x.put(0, 40, 1), -13);
        is("put(0, -1, 1)", x.put(0, -1, 1), -13);
        is("put(1, 0, 1)", x.put(1, 0, 1), -11);
        is("put(1, 40, 1)", x.put(1, 40, 1), -11);
        x.row(2, 0);
        is("no place, but not missing", x.put(2, 0, 1), -13);
        is("put(3, 0, 1)", x.put(3, 0, 1), BAD);
        is("put(-1, 0, 1)", x.put(-1, 0, 1), BAD);
        at = "40 get";
        is("get", x.get(0, 39), Integer.MIN_VALUE + 1);
        is("get(0, 40)", x.get(0, 40), VOID);
        is("get(0, -1)", x.get(0, -1), VOID);
        is("get(1, 0)", x.get(1, 0), VOID);
        is("get(3, 0)", x.get(3, 0), VOID);
        is("get(-1, 0)", x.get(-1, 0), VOID);
        at = "38 row";
        x.row(0, 40);
        is("all 0 again", x.get(0, 39), 0);
        x.row(0, 2);
        is("no third", x.get(0, 2), VOID);
        x.row(0, -1);
        is("missing", x.put(0, 0, 1), -11);
    }

    private static void promise41() {
        at = "41 film";
        ZeroForcer x = made("n5;P0,4");
        is("film", x.film(1, 1, 39), 40);
        int[] told = {1, 3, 7, 15, 31, 31};
        for (int i = 0; i < told.length; i++) {
            is("place " + i, x.get(1, i), told[i]);
        }
        is("the last", x.get(1, 39), 31);
        is("film of none", x.film(1, 4, 0), 1);
        is("its set", x.get(1, 0), 4);
        is("no more", x.get(1, 1), VOID);
        x.rule(3, 1);
        is("WIDE", x.film(2, 4, 2), 3);
        is("round 1", x.get(2, 1), 14);
        is("round 2", x.get(2, 2), 31);
        is("m 40", x.film(2, 4, 40), BAD);
        is("m -1", x.film(2, 4, -1), BAD);
        is("set", x.film(2, 32, 1), BAD);
        is("set", x.film(2, -1, 1), BAD);
        is("row", x.film(3, 1, 1), BAD);
        is("row", x.film(-1, 1, 1), BAD);
        is("the row stays", x.get(2, 2), 31);
    }

    private static void traced(ZeroForcer x, int... bodies) {
        for (int i = 0; i < bodies.length; i++) {
            is("trace(" + i + ")", x.trace(i), bodies[i]);
        }
        is("the end of the trace", x.trace(bodies.length), NOT);
        is("trace(-1)", x.trace(-1), NOT);
    }

    private static void promises42and43() {
        at = "42 act, 43 trace";
        ZeroForcer x = made("n5;k1,1;k2,2;k3,3;k4,4;c4,7");
        is("POINT asks", x.act(0, 0, 5), 5);
        traced(x, 10);
        is("POINT says", x.act(0, 1, 5), 13);
        traced(x, 11, 10, 1);
        is("POINT tells", x.act(0, 2, 5), 7);
        traced(x, 1);
        is("LEAF asks", x.act(1, 0, 5), -6);
        traced(x, 20, 10);
        is("LEAF says", x.act(1, 1, 5), -9);
        traced(x, 11, 20, 10, 1);
        is("LEAF tells", x.act(1, 2, 5), 7);
        is("HUB asks", x.act(2, 0, 5), -7);
        is("HUB says", x.act(2, 1, 5), -5);
        traced(x, 11, 20, 10, 30, 1);
        is("HUB tells", x.act(2, 2, 5), 21);
        traced(x, 30, 1);
        is("STAR asks", x.act(3, 0, 5), 8);
        is("STAR says", x.act(3, 1, 5), 19 ^ 5);
        traced(x, 40, 11, 10, 1);
        is("STAR tells", x.act(3, 2, 5), 7);
        is("RIM asks", x.act(4, 0, 5), -9);
        is("RIM says", x.act(4, 1, 5), -18 + 13);
        is("RIM tells", x.act(4, 2, 5), 25);
        traced(x, 50, 30, 1);
        is("wraps", x.act(0, 2, Integer.MAX_VALUE), Integer.MIN_VALUE + 1);
        is("wraps", x.act(4, 2, Integer.MIN_VALUE), (Integer.MAX_VALUE + 2) * 3 + 7);
        is("act 3", x.act(0, 3, 5), 0);
        is("act -1", x.act(0, -1, 5), 0);
        is("point 5", x.act(5, 0, 5), 0);
        is("point -1", x.act(-1, 0, 5), 0);
        traced(x, 50, 30, 1);
    }

    private static void promise44() {
        at = "44 taken";
        ZeroForcer x = made("n5;k1,1;k2,2;k3,3;k4,4;c0,5;c1,6;c2,7;c3,8;c4,9");
        int[][] told = {{5, STATE, STATE, STATE, STATE}, {6, 6, STATE, STATE, STATE}, {7, 7, 7, STATE, STATE},
            {8, STATE, STATE, 8, STATE}, {9, 9, 9, STATE, 9}};
        for (int i = 0; i < 5; i++) {
            for (int k = 0; k < 5; k++) {
                is("taken(" + i + ", " + k + ")", x.taken(i, k), told[i][k]);
            }
        }
        is("taken(5, 0)", x.taken(5, 0), BAD);
        is("taken(-1, 0)", x.taken(-1, 0), BAD);
        is("taken(0, 5)", x.taken(0, 5), BAD);
        is("taken(0, -1)", x.taken(0, -1), BAD);
    }

    private static void promises45and46() {
        at = "45 image, 46 back";
        ZeroForcer x = made("n6;C0,5;k1,4;c1,8;r2,3;m17");
        x.table(0, 1, -3);
        x.table(4, 4, 6);
        x.row(0, 2);
        is("image", x.image(), 6);
        is("an image is no change", x.count(8) > 0 ? 1 : 0, 1);
        x.points(2);
        x.rule(0, 1);
        x.prime(11);
        x.line(0, 1, 1);
        x.put(0, 1, 9);
        x.feed('n');
        is("back", x.back(), 6);
        is("points", x.count(0), 6);
        is("kind", x.of(1, 0), 4);
        is("cost", x.of(1, 1), 8);
        is("rule", x.count(2), 2);
        is("k", x.count(3), 3);
        is("prime", x.count(4), 17);
        is("number", x.entry(1, 0), -3);
        is("number", x.entry(4, 4), 6);
        is("no changes", x.undo(), STATE);
        is("nor any undone", x.redo(), STATE);
        is("the row stays", x.get(0, 1), 9);
        is("the tape stays", x.wipe(), 1);
        x.line(0, 1, 0);
        is("the image is its own", x.back(), 6);
        is("again", x.entry(0, 1), -3);
        x.line(0, 1, 0);
        is("a later image", x.image(), 5);
        is("is the one", x.back(), 5);
        x.line(0, 2, 1);
        ZeroForcer none = made("l0,1");
        is("none", none.back(), STATE);
        is("leaves the changes", none.count(8), 1);
    }

    private static void promise47() {
        at = "47 count";
        ZeroForcer x = made("n7;P0,2;l3,4;l1,3;r3,4;m29");
        x.undo();
        x.feed('x');
        x.feed('y');
        int[] told = {7, 4, 3, 4, 11, 0, 3, 3, 5, 1, 2};
        for (int what = 0; what < told.length; what++) {
            is("count(" + what + ")", x.count(what), told[what]);
        }
        is("count(11)", x.count(11), BAD);
        is("count(-1)", x.count(-1), BAD);
        is("a ring's least degree", made("n6;C0,5").count(5), 2);
        is("a ring is one", made("n6;C0,5").count(7), 1);
        is("one point", made("n1").count(7), 1);
    }

    public static void main(String[] args) {
        promise1();
        promise2();
        promise3();
        promises4to6();
        promise7();
        promise8();
        promises9and10();
        promise11();
        promise12();
        promises13and14();
        promises15and16();
        promise17();
        promises18and19();
        promises20to23();
        promises24and25();
        promise26();
        promises27and28();
        promises29and30();
        promise31();
        promise32();
        promises33and34();
        promises35and36();
        promise37();
        promises38to40();
        promise41();
        promises42and43();
        promise44();
        promises45and46();
        promise47();
        Check.end();
    }
}
