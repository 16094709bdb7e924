/** The boundaries of promises 8 to 19: ROUNDS by each RULE, FORCING sets, SPREADS, CHAINS and ENDS. */
public final class RoundBounds extends Bounds {
    private static final int PLAIN = 0, SKEW = 1, PARTED = 2, WIDE = 3, MANY = 4;

    private RoundBounds() {
    }

    /** A call that takes a set, and nothing else that could be refused. */
    private interface OfSet {
        int ask(ZeroForcer x, int set);
    }

    /** A set is 0 .. 2 to the n, less 1: answers by no LINES for the empty set and all POINTS, BAD beyond. */
    private static void setEdges(int promise, OfSet call, int byNone, int... byAll) {
        int[] sizes = {1, 4, 9};
        for (int i = 0; i < sizes.length; i++) {
            int n = sizes[i];
            int all = byAll[i];
            on(promise, "of " + n + " POINTS: the empty set, all, and one beyond", () -> {
                is(call.ask(bare(n), 0), byNone);
                is(call.ask(bare(n), (1 << n) - 1), all);
                is(call.ask(bare(n), 1 << n), BAD);
            });
        }
        on(promise, "set -1, the least and the greatest int are BAD", () -> {
            for (int n : sizes) {
                is(call.ask(bare(n), -1), BAD);
                is(call.ask(bare(n), MIN), BAD);
                is(call.ask(bare(n), MAX), BAD);
            }
        });
    }

    private static void rounds() {
        setEdges(8, ZeroForcer::round, 0, 1, 15, 511);
        on(8, "PLAIN: none, one, two and three NEIGHBOURS that are not COLOURED", () -> {
            is(star(4).round(15), 15);
            is(star(4).round(7), 15);
            is(star(4).round(3), 3);
            is(star(4).round(1), 1);
        });
        on(8, "PLAIN: who is not COLOURED forces nobody", () -> is(path(2).round(0), 0));
        on(8, "a ROUND is by what is COLOURED ahead of it", () -> {
            is(path(9).round(1), 3);
            is(path(9).round(257), 387);
        });
        on(8, "SKEW: nothing needs to be COLOURED", () -> {
            is(by(path(2), SKEW, 1).round(0), 3);
            is(by(star(9), SKEW, 1).round(0), 1);
        });
        on(8, "SKEW: a POINT without NEIGHBOURS forces nobody", () -> {
            is(by(bare(1), SKEW, 1).round(0), 0);
            is(by(bare(9), SKEW, 1).round(0), 0);
        });
        on(8, "SKEW: one, two and none that are not COLOURED", () -> {
            is(by(star(4), SKEW, 1).round(7), 15);
            is(by(star(4), SKEW, 1).round(3), 3);
            is(by(star(4), SKEW, 1).round(15), 15);
        });
        on(8, "PARTED: one force in each PART, eight PARTS", () -> {
            is(by(path(5), PARTED, 1).round(4), 14);
            is(by(star(9), PARTED, 1).round(1), 511);
        });
        on(8, "PARTED: two NEIGHBOURS in one PART are too many", () ->
            is(by(made("C0,3"), PARTED, 1).round(1), 1));
        on(8, "PARTED: who is not COLOURED forces nobody", () -> is(by(path(2), PARTED, 1).round(0), 0));
        on(8, "PARTED: no PART is left, or one of the least POINT alone", () -> {
            is(by(star(9), PARTED, 1).round(511), 511);
            is(by(star(9), PARTED, 1).round(510), 511);
            is(by(star(9), PARTED, 1).round(509), 511);
        });
        on(8, "WIDE: the first ROUND forces all NEIGHBOURS", () -> {
            is(by(star(9), WIDE, 1).round(1), 511);
            is(by(star(9), WIDE, 1).round(256), 257);
            is(by(star(9), WIDE, 1).round(0), 0);
        });
        on(8, "WIDE: nothing is left of LINES that were there", () -> {
            ZeroForcer x = by(whole(9), WIDE, 1);
            is(x.round(1), 511);
            x.points(1);
            is(x.round(1), 1);
            x.points(2);
            is(x.round(1), 1);
            is(x.round(2), 2);
            is(x.spread(0), 1);
        });
        on(8, "MANY: K NEIGHBOURS and one more, by the least K", () -> {
            is(by(star(3), MANY, 1).round(3), 7);
            is(by(star(3), MANY, 1).round(1), 1);
        });
        on(8, "MANY: K NEIGHBOURS and one more, by the greatest K", () -> {
            is(by(star(5), MANY, 4).round(1), 31);
            is(by(star(6), MANY, 4).round(1), 1);
            is(by(star(6), MANY, 4).round(3), 63);
        });
        on(8, "MANY: fewer than K are forced, too; by none nobody is", () -> {
            is(by(star(4), MANY, 4).round(3), 15);
            is(by(star(4), MANY, 4).round(15), 15);
            is(by(bare(4), MANY, 4).round(1), 1);
        });
        on(8, "MANY: who is not COLOURED forces nobody", () -> is(by(path(2), MANY, 4).round(0), 0));
        on(8, "by each RULE the empty set of one POINT and all of nine stay", () -> {
            for (int rule = 0; rule < 5; rule++) {
                is(by(bare(1), rule, 4).round(0), 0);
                is(by(bare(1), rule, 4).round(1), 1);
                is(by(whole(9), rule, 4).round(511), 511);
            }
        });
    }

    private static void closures() {
        setEdges(9, ZeroForcer::closure, 0, 1, 15, 511);
        on(9, "as many ROUNDS as change something: eight", () -> is(path(9).closure(1), 511));
        on(9, "SKEW goes on from the empty set", () -> {
            is(by(path(2), SKEW, 1).closure(0), 3);
            is(by(path(8), SKEW, 1).closure(0), 255);
            is(by(path(9), SKEW, 1).closure(0), 170);
        });
        on(9, "WIDE: the first ROUND changes nothing", () -> {
            is(by(made("n4;l0,1"), WIDE, 1).closure(3), 3);
            is(by(path(4), WIDE, 1).closure(0), 0);
        });
        on(9, "WIDE: from the second ROUND on as PLAIN", () -> {
            ZeroForcer x = by(made("n4;l0,1;l1,2;l1,3"), WIDE, 1);
            is(x.closure(1), 3);
            is(x.closure(3), 15);
        });
        on(9, "by each RULE all POINTS are all", () -> {
            for (int rule = 0; rule < 5; rule++) {
                is(by(star(9), rule, 1).closure(511), 511);
                is(by(bare(1), rule, 1).closure(1), 1);
            }
        });
    }

    private static void times() {
        setEdges(10, ZeroForcer::time, NOT, 0, 0, 0);
        on(10, "the longest of a path of nine: eight ROUNDS", () -> {
            is(path(9).time(1), 8);
            is(path(9).time(511), 0);
            is(path(9).time(510), 1);
        });
        on(10, "all but one: NOT", () -> {
            is(bare(9).time(510), NOT);
            is(bare(2).time(1), NOT);
        });
        on(10, "SKEW from the empty set", () -> {
            is(by(path(2), SKEW, 1).time(0), 1);
            is(by(path(8), SKEW, 1).time(0), 4);
            is(by(path(9), SKEW, 1).time(0), NOT);
        });
        on(10, "WIDE: the first ROUND is one, if it changes something", () -> {
            is(by(star(9), WIDE, 1).time(1), 1);
            is(by(star(9), WIDE, 1).time(511), 0);
            is(by(path(9), WIDE, 1).time(16), 4);
            is(by(path(9), WIDE, 1).time(1), 8);
        });
        on(10, "WIDE: the first ROUND changes nothing, and not all are COLOURED", () -> {
            is(by(path(9), WIDE, 1).time(0), NOT);
            is(by(made("n4;l0,1"), WIDE, 1).time(3), NOT);
        });
        on(10, "BAD ahead of NOT", () -> {
            is(bare(2).time(4), BAD);
            is(bare(2).time(-2), BAD);
        });
    }

    /** what 0, 1, .. as told, the next ones on either side and the least and the greatest int BAD. */
    private interface OfWhat {
        int ask(ZeroForcer x, int what);
    }

    private static void whats(OfWhat call, ZeroForcer x, int... told) {
        for (int what = 0; what < told.length; what++) {
            is(call.ask(x, what), told[what]);
        }
    }

    private static void whatEdges(int promise, int greatest, OfWhat call, int refused) {
        on(promise, "what -1 and " + (greatest + 1) + " are refused", () -> {
            is(call.ask(path(4), -1), refused);
            is(call.ask(path(4), greatest + 1), refused);
        });
        on(promise, "what the least and the greatest int is refused", () -> {
            is(call.ask(path(4), MIN), refused);
            is(call.ask(path(4), MAX), refused);
        });
    }

    private static void leasts() {
        whatEdges(11, 3, ZeroForcer::least, BAD);
        on(11, "of one POINT by each RULE", () -> {
            for (int rule = 0; rule < 5; rule++) {
                whats(ZeroForcer::least, by(bare(1), rule, 1), 1, 1, 1, 0);
            }
        });
        on(11, "the empty set is FORCING: LEAST is 0", () -> {
            whats(ZeroForcer::least, by(path(2), SKEW, 1), 0, 0, 1, 1);
            whats(ZeroForcer::least, by(path(8), SKEW, 1), 0, 0, 1, 4);
        });
        on(11, "all of nine POINTS are needed", () -> {
            for (int rule = 0; rule < 5; rule++) {
                whats(ZeroForcer::least, by(bare(9), rule, 4), 9, 511, 1, 0);
            }
        });
        on(11, "the longest: a path of nine", () -> whats(ZeroForcer::least, path(9), 1, 1, 2, 8));
        on(11, "all LINES of nine POINTS", () -> {
            whats(ZeroForcer::least, whole(9), 8, 255, 9, 1);
            whats(ZeroForcer::least, by(whole(9), WIDE, 1), 1, 1, 9, 1);
            whats(ZeroForcer::least, by(whole(9), MANY, 4), 5, 31, 126, 1);
        });
        on(11, "WIDE: from the second ROUND on as PLAIN", () ->
            // the leaves would force all, were the second ROUND wide, too
            whats(ZeroForcer::least, by(star(4), WIDE, 1), 1, 1, 1, 1));
        on(11, "the least TIME is of the least sets alone", () ->
            // three of a path of four need fewer ROUNDS than one
            whats(ZeroForcer::least, path(4), 1, 1, 2, 3));
    }

    private static void cheapests() {
        whatEdges(12, 1, ZeroForcer::cheapest, BAD);
        on(12, "of one POINT", () -> {
            whats(ZeroForcer::cheapest, bare(1), 1, 1);
            whats(ZeroForcer::cheapest, made("n1;k0,4;c0,9"), 1, 22);
        });
        on(12, "the empty set costs nothing", () -> whats(ZeroForcer::cheapest, by(path(2), SKEW, 1), 0, 0));
        on(12, "all of nine POINTS at the greatest COUNTS", () -> {
            ZeroForcer x = bare(9);
            for (int i = 0; i < 9; i++) {
                x.kind(i, 4);
                x.cost(i, 9);
            }
            whats(ZeroForcer::cheapest, x, 511, 9 * 22);
        });
        on(12, "of like ones the least as a number", () -> {
            whats(ZeroForcer::cheapest, path(9), 1, 1);
            // the ends count 2 and 2, and two in the middle together 2
            whats(ZeroForcer::cheapest, made("P0,3;c0,1;c3,1"), 1, 2);
            whats(ZeroForcer::cheapest, made("P0,3;c0,2;c3,1"), 6, 2);
            whats(ZeroForcer::cheapest, made("P0,3;c0,2;c3,1;c1,1"), 8, 2);
        });
        on(12, "more POINTS may be cheaper", () ->
            whats(ZeroForcer::cheapest, made("n2;l0,1;c0,9;c1,8"), 2, 9));
    }

    private static void manys() {
        on(13, "k 0 and n are taken, -1 and n and 1 are BAD", () -> {
            int[] sizes = {1, 4, 9};
            for (int n : sizes) {
                is(bare(n).many(0), 0);
                is(bare(n).many(n), 1);
                is(bare(n).many(-1), BAD);
                is(bare(n).many(n + 1), BAD);
            }
        });
        on(13, "k the least and the greatest int is BAD", () -> {
            is(bare(9).many(MIN), BAD);
            is(bare(9).many(MAX), BAD);
        });
        on(13, "the empty set is one, if it is FORCING", () -> {
            is(by(path(2), SKEW, 1).many(0), 1);
            is(by(path(9), SKEW, 1).many(0), 0);
        });
        on(13, "all LINES of nine POINTS: from eight on", () -> {
            is(whole(9).many(7), 0);
            is(whole(9).many(8), 9);
            is(whole(9).many(9), 1);
        });
    }

    private static void throttles() {
        whatEdges(14, 1, ZeroForcer::throttle, BAD);
        on(14, "of one POINT: one and no ROUND", () -> whats(ZeroForcer::throttle, bare(1), 1, 1));
        on(14, "of no LINES: all nine and no ROUND", () -> whats(ZeroForcer::throttle, bare(9), 9, 511));
        on(14, "the empty set is one, too", () -> whats(ZeroForcer::throttle, by(path(2), SKEW, 1), 1, 0));
        on(14, "of like ones the least as a number", () -> {
            // 1 and one ROUND, 2 and one, 3 and none
            whats(ZeroForcer::throttle, path(2), 2, 1);
            // all but one are 8 and one ROUND, all are 9
            whats(ZeroForcer::throttle, whole(9), 9, 255);
        });
        on(14, "WIDE: the first ROUND counts", () -> whats(ZeroForcer::throttle, by(star(9), WIDE, 1), 2, 1));
    }

    private static void spreads() {
        on(15, "the only POINT: LEAST of no POINTS is 0", () -> {
            for (int rule = 0; rule < 5; rule++) {
                is(by(bare(1), rule, 1).spread(0), 1);
            }
        });
        on(15, "the least and the greatest POINT of nine", () -> {
            is(star(9).spread(0), -1);
            is(star(9).spread(8), 1);
            is(whole(9).spread(0), 1);
            is(path(9).spread(8), 0);
        });
        on(15, "below 0 by SKEW: without it the other is alone", () -> {
            is(by(path(2), SKEW, 1).spread(0), -1);
            is(by(path(2), SKEW, 1).spread(1), -1);
        });
        on(15, "by each RULE without a leaf, and without all LINES", () -> {
            // LEAST of a star of five, of four and of four alone
            int[] withoutLeaf = {1, 1, 0, 0, 1};
            int[] withoutHead = {-1, -1, -3, -3, -1};
            for (int rule = 0; rule < 5; rule++) {
                is(by(star(5), rule, 1).spread(4), withoutLeaf[rule]);
                is(by(star(5), rule, 1).spread(0), withoutHead[rule]);
            }
        });
        on(15, "WIDE: who is left out is not forced in the first ROUND", () ->
            // POINT 2 alone forces all, with POINT 0 and without
            is(by(made("n6;l0,2;l1,2;l2,3;l2,5;l3,4"), WIDE, 1).spread(0), 0));
        on(15, "POINTS -1 and n are VOID", () -> {
            for (int n = 1; n < 10; n++) {
                is(bare(n).spread(-1), VOID);
                is(bare(n).spread(n), VOID);
            }
        });
        on(15, "POINTS the least and the greatest int are VOID", () -> {
            is(bare(9).spread(MIN), VOID);
            is(bare(9).spread(MAX), VOID);
        });
        on(15, "nothing changes by it", () -> {
            ZeroForcer x = path(5);
            x.spread(2);
            counts(x, 5, 4, 0, 1, 11, 1, 2, 1, 4, 0);
            is(x.closure(1), 31);
        });
        on(16, "the LINE is there, and it isn't", () -> {
            is(path(2).lineSpread(0, 1), -1);
            is(bare(2).lineSpread(0, 1), 1);
            is(path(9).lineSpread(0, 8), -1);
            is(path(9).lineSpread(8, 7), -1);
            is(bare(9).lineSpread(8, 0), 1);
        });
        on(16, "by each RULE: a star of four loses a LINE, and one of three becomes a ring", () -> {
            int[] lost = {0, 0, -1, -1, 0};
            int[] ring = {-1, 0, -1, 0, -1};
            for (int rule = 0; rule < 5; rule++) {
                is(by(star(4), rule, 1).lineSpread(0, 3), lost[rule]);
                is(by(star(3), rule, 1).lineSpread(1, 2), ring[rule]);
            }
        });
        on(16, "a is b: VOID", () -> {
            is(path(4).lineSpread(0, 0), VOID);
            is(path(4).lineSpread(3, 3), VOID);
            is(bare(1).lineSpread(0, 0), VOID);
        });
        on(16, "a and b -1 and n are VOID", () -> {
            is(path(4).lineSpread(-1, 0), VOID);
            is(path(4).lineSpread(4, 0), VOID);
            is(path(4).lineSpread(0, -1), VOID);
            is(path(4).lineSpread(0, 4), VOID);
            is(bare(9).lineSpread(0, 9), VOID);
            is(bare(1).lineSpread(0, 1), VOID);
        });
        on(16, "a and b the least and the greatest int are VOID", () -> {
            is(path(4).lineSpread(MIN, 0), VOID);
            is(path(4).lineSpread(MAX, 0), VOID);
            is(path(4).lineSpread(0, MIN), VOID);
            is(path(4).lineSpread(0, MAX), VOID);
        });
        on(16, "nothing changes by it", () -> {
            ZeroForcer x = path(4);
            x.table(1, 2, -7);
            x.lineSpread(1, 2);
            x.lineSpread(0, 3);
            counts(x, 4, 3, 0, 1, 11, 1, 2, 1, 4, 0);
            is(x.entry(1, 2), -7);
            is(x.entry(0, 3), 0);
        });
    }

    private static void bests() {
        whatEdges(17, 1, ZeroForcer::best, VOID);
        on(17, "there is but one POINT", () -> whats(ZeroForcer::best, bare(1), VOID, VOID));
        on(17, "two POINTS: the only two", () -> {
            whats(ZeroForcer::best, bare(2), 1, 1);
            whats(ZeroForcer::best, path(2), 1, -1);
        });
        on(17, "of like ones the least of all two of nine", () -> {
            whats(ZeroForcer::best, bare(9), 1, 1);
            whats(ZeroForcer::best, whole(9), 1, 1);
        });
        on(17, "the greatest two of nine", () ->
            // a path of nine but for one LINE too many: LEAST is 1 for a path alone
            whats(ZeroForcer::best, made("n9;P0,4;l4,7;P6,8;l6,8;l5,8"), 78, 1));
        on(17, "nothing changes by it", () -> {
            ZeroForcer x = path(4);
            x.best(0);
            counts(x, 4, 3, 0, 1, 11, 1, 2, 1, 3, 0);
            is(x.closure(8), 15);
        });
    }

    private static void chainsAndEnds() {
        on(18, "the 0th is the POINT itself, the last of nine the 8th", () -> {
            is(path(9).chain(1, 0, 0), 0);
            is(path(9).chain(1, 0, 8), 8);
            is(path(9).chain(1, 0, 9), NOT);
        });
        on(18, "i -1 and the least int are BAD, the greatest int is NOT", () -> {
            is(path(9).chain(1, 0, -1), BAD);
            is(path(9).chain(1, 0, MIN), BAD);
            is(path(9).chain(1, 0, MAX), NOT);
        });
        on(18, "all POINTS are in the set: each CHAIN has one", () -> {
            ZeroForcer x = path(9);
            for (int point = 0; point < 9; point++) {
                is(x.chain(511, point, 0), point);
                is(x.chain(511, point, 1), NOT);
            }
        });
        on(18, "the empty set has no CHAIN: BAD", () -> {
            is(path(4).chain(0, 0, 0), BAD);
            is(path(4).chain(0, 3, 0), BAD);
        });
        on(18, "one POINT", () -> {
            is(bare(1).chain(1, 0, 0), 0);
            is(bare(1).chain(1, 0, 1), NOT);
            is(bare(1).chain(0, 0, 0), BAD);
            is(bare(1).chain(2, 0, 0), BAD);
            is(bare(1).chain(1, 1, 0), BAD);
        });
        on(18, "sets -1 and 2 to the n, the least and the greatest int are BAD", () -> {
            is(path(4).chain(-1, 0, 0), BAD);
            is(path(4).chain(16, 0, 0), BAD);
            is(path(4).chain(17, 0, 0), BAD);
            is(path(4).chain(MIN, 0, 0), BAD);
            is(path(4).chain(MAX, 0, 0), BAD);
            is(path(9).chain(513, 0, 0), BAD);
        });
        on(18, "POINTS -1 and n, the least and the greatest int are BAD", () -> {
            is(path(4).chain(15, -1, 0), BAD);
            is(path(4).chain(15, 4, 0), BAD);
            is(path(4).chain(15, 32, 0), BAD);
            is(path(4).chain(15, MIN, 0), BAD);
            is(path(4).chain(15, MAX, 0), BAD);
        });
        on(18, "a POINT not in the set is BAD, far along, too", () -> {
            is(path(4).chain(1, 1, 0), BAD);
            is(path(4).chain(1, 3, 99), BAD);
        });
        on(18, "of two that can force one the least does", () -> {
            ZeroForcer x = made("n3;l0,2;l1,2");
            is(x.chain(3, 0, 1), 2);
            is(x.chain(3, 1, 1), NOT);
        });
        on(18, "by PLAIN, whatever RULE is", () -> {
            for (int rule = 0; rule < 5; rule++) {
                is(by(star(4), rule, 4).chain(1, 0, 1), NOT);
                is(by(path(4), rule, 4).chain(1, 0, 3), 3);
            }
        });
        setEdges(19, ZeroForcer::ends, 0, 1, 15, 511);
        on(19, "one CHAIN through nine POINTS", () -> {
            is(path(9).ends(1), 256);
            is(path(9).ends(256), 1);
        });
        on(19, "nobody forces: the set itself", () -> {
            is(path(9).ends(16), 16);
            is(star(9).ends(1), 1);
        });
        on(19, "by PLAIN, whatever RULE is", () -> {
            for (int rule = 0; rule < 5; rule++) {
                is(by(star(4), rule, 4).ends(1), 1);
                is(by(path(2), rule, 4).ends(0), 0);
            }
        });
    }

    public static void main(String[] args) {
        rounds();
        closures();
        times();
        leasts();
        cheapests();
        manys();
        throttles();
        spreads();
        bests();
        chainsAndEnds();
        covers(8, 19);
        end();
    }
}
