/** The boundaries of promises 20 to 30: FORTS, THE TABLE, PRIME, RANK, KERNEL and MEND. */
public final class FortAndTableBounds extends Bounds {
    private static final int[] PRIMES = {11, 13, 17, 19, 23, 29, 31};

    private FortAndTableBounds() {
    }

    private static void fort() {
        on(20, "the empty set is none", () -> {
            is(bare(1).fort(0), 0);
            is(path(4).fort(0), 0);
            is(bare(9).fort(0), 0);
        });
        on(20, "all POINTS are one, an INNER one if there is no other", () -> {
            is(bare(1).fort(1), 2);
            is(path(2).fort(3), 2);
            is(path(9).fort(511), 1);
            is(whole(9).fort(511), 1);
        });
        on(20, "just one NEIGHBOUR in it is too few, none and two are well", () -> {
            is(path(3).fort(1), 0);
            is(path(3).fort(5), 2);
            is(made("n3;l0,1").fort(4), 2);
        });
        on(20, "one more than an INNER one", () -> {
            is(bare(9).fort(256), 2);
            is(bare(9).fort(257), 1);
            is(whole(9).fort(384), 2);
            is(whole(9).fort(448), 1);
            is(whole(9).fort(256), 0);
        });
        on(20, "a FORT far within, or with the least POINT less: no INNER one", () -> {
            is(made("l0,1;l2,3").fort(15), 1);
            is(star(3).fort(7), 1);
        });
        on(20, "none, though a FORT lies within it", () -> {
            is(made("n3;l0,1").fort(5), 0);
            is(made("n3;l0,1").fort(4), 2);
        });
        on(20, "nothing is left of what was asked by other LINES", () -> {
            ZeroForcer x = bare(9);
            is(x.fort(1), 2);
            is(x.fort(3), 1);
            x.line(0, 1, 1);
            is(x.fort(1), 0);
            is(x.fort(3), 2);
            is(x.meets(508), 0);
        });
        on(20, "2 to the n is BAD, for one, four and nine POINTS", () -> {
            is(bare(1).fort(2), BAD);
            is(path(4).fort(16), BAD);
            is(path(9).fort(512), BAD);
        });
        on(20, "set -1, the least and the greatest int are BAD", () -> {
            is(path(9).fort(-1), BAD);
            is(path(9).fort(MIN), BAD);
            is(path(9).fort(MAX), BAD);
        });
        on(20, "whatever RULE is", () -> {
            for (int rule = 0; rule < 5; rule++) {
                is(by(path(3), rule, 4).fort(5), 2);
                is(by(path(3), rule, 4).fort(1), 0);
            }
        });
    }

    private static void forts() {
        on(21, "k 0: none is empty", () -> {
            is(bare(1).forts(0, 0), 0);
            is(bare(9).forts(0, 0), 0);
            is(bare(9).forts(0, 1), 0);
        });
        on(21, "k n: all POINTS", () -> {
            is(bare(1).forts(1, 0), 1);
            is(bare(1).forts(1, 1), 1);
            is(bare(9).forts(9, 0), 1);
            is(bare(9).forts(9, 1), 0);
            is(path(2).forts(2, 1), 1);
        });
        on(21, "of no LINES each set but the empty one", () -> {
            is(bare(9).forts(1, 0), 9);
            is(bare(9).forts(4, 0), 126);
            is(bare(9).forts(8, 0), 9);
            is(bare(9).forts(1, 1), 9);
            is(bare(9).forts(2, 1), 0);
        });
        on(21, "of all LINES each two", () -> {
            is(whole(9).forts(1, 0), 0);
            is(whole(9).forts(2, 0), 36);
            is(whole(9).forts(2, 1), 36);
            is(whole(9).forts(3, 0), 84);
            is(whole(9).forts(3, 1), 0);
        });
        on(21, "sets that hold a FORT are none for that", () -> {
            ZeroForcer x = made("n3;l0,1");
            int[] forts = {0, 1, 1, 1};
            int[] inner = {0, 1, 1, 0};
            for (int k = 0; k < 4; k++) {
                is(x.forts(k, 0), forts[k]);
                is(x.forts(k, 1), inner[k]);
            }
        });
        on(21, "two far within: four POINTS are no INNER one", () -> {
            is(made("l0,1;l2,3").forts(4, 0), 1);
            is(made("l0,1;l2,3").forts(4, 1), 0);
        });
        on(21, "k -1 and n and 1 are BAD", () -> {
            int[] sizes = {1, 4, 9};
            for (int n : sizes) {
                for (int inner = 0; inner < 2; inner++) {
                    is(path(n).forts(-1, inner), BAD);
                    is(path(n).forts(n + 1, inner), BAD);
                }
            }
        });
        on(21, "k the least and the greatest int is BAD", () -> {
            is(path(9).forts(MIN, 0), BAD);
            is(path(9).forts(MAX, 0), BAD);
        });
        on(21, "inner -1 and 2 are BAD", () -> {
            is(path(4).forts(1, -1), BAD);
            is(path(4).forts(1, 2), BAD);
        });
        on(21, "inner the least and the greatest int is BAD", () -> {
            is(path(4).forts(1, MIN), BAD);
            is(path(4).forts(1, MAX), BAD);
        });
    }

    private static void innerForts() {
        on(22, "the 0th, the last, and one beyond", () -> {
            is(bare(1).innerFort(0), 1);
            is(bare(1).innerFort(1), NOT);
            is(bare(9).innerFort(0), 1);
            is(bare(9).innerFort(8), 256);
            is(bare(9).innerFort(9), NOT);
        });
        on(22, "by numbers: of all LINES each two", () -> {
            ZeroForcer x = whole(9);
            int i = 0;
            for (int set = 0; set < 512; set++) {
                if (Integer.bitCount(set) == 2) {
                    is(x.innerFort(i), set);
                    i++;
                }
            }
            is(i, 36);
            is(x.innerFort(36), NOT);
        });
        on(22, "those far within alone", () -> {
            ZeroForcer x = made("l0,1;l2,3");
            is(x.innerFort(0), 3);
            is(x.innerFort(1), 12);
            is(x.innerFort(2), NOT);
        });
        on(22, "i -1 and the least int are BAD, the greatest int is NOT", () -> {
            is(bare(9).innerFort(-1), BAD);
            is(bare(9).innerFort(MIN), BAD);
            is(bare(9).innerFort(MAX), NOT);
        });
    }

    private static void meets() {
        on(23, "the empty set meets none, all POINTS meet all", () -> {
            int[] sizes = {1, 4, 9};
            for (int n : sizes) {
                is(path(n).meets(0), 0);
                is(path(n).meets((1 << n) - 1), 1);
            }
        });
        on(23, "each POINT is a FORT: one less than all does not do", () -> {
            is(bare(9).meets(510), 0);
            is(bare(9).meets(255), 0);
        });
        on(23, "what is left is no FORT, but holds one", () -> {
            ZeroForcer x = made("n3;l0,1");
            is(x.meets(2), 0);
            is(x.meets(5), 1);
            is(x.meets(6), 1);
            is(x.meets(4), 0);
        });
        on(23, "each two are a FORT: one less than all does, two less do not", () -> {
            is(whole(9).meets(255), 1);
            is(whole(9).meets(127), 0);
        });
        on(23, "2 to the n is BAD, for one, four and nine POINTS", () -> {
            is(bare(1).meets(2), BAD);
            is(path(4).meets(16), BAD);
            is(path(9).meets(512), BAD);
        });
        on(23, "set -1, the least and the greatest int are BAD", () -> {
            is(path(9).meets(-1), BAD);
            is(path(9).meets(MIN), BAD);
            is(path(9).meets(MAX), BAD);
        });
    }

    private static void table() {
        on(24, "numbers -9 and 9 are taken at a LINE and with itself", () -> {
            ZeroForcer x = path(9);
            is(x.table(7, 8, -9), 1);
            is(x.table(8, 7, 9), -9);
            is(x.table(8, 8, 9), 0);
            is(x.table(8, 8, -9), 9);
            is(x.table(0, 0, -9), 0);
            is(x.entry(7, 8), 9);
            is(x.entry(8, 8), -9);
        });
        on(24, "numbers -10 and 10 are VOID at a LINE, at none and with itself", () -> {
            for (int j = 0; j < 3; j++) {
                noNumber(0, j, -10, VOID);
                noNumber(0, j, 10, VOID);
            }
        });
        on(24, "numbers the least and the greatest int are VOID", () -> {
            for (int j = 0; j < 3; j++) {
                noNumber(0, j, MIN, VOID);
                noNumber(0, j, MAX, VOID);
            }
        });
        on(24, "i and j -1 and n are VOID", () -> {
            noNumber(-1, 0, 0, VOID);
            noNumber(4, 0, 0, VOID);
            noNumber(0, -1, 0, VOID);
            noNumber(0, 4, 0, VOID);
            noNumber(4, 4, 0, VOID);
            is(bare(9).table(9, 9, 0), VOID);
            is(bare(1).table(0, 1, 0), VOID);
        });
        on(24, "i and j the least and the greatest int are VOID", () -> {
            noNumber(MIN, 0, 0, VOID);
            noNumber(MAX, 0, 0, VOID);
            noNumber(0, MIN, 0, VOID);
            noNumber(0, MAX, 0, VOID);
        });
        on(24, "0 at a LINE: STATE, both ways", () -> {
            noNumber(0, 1, 0, -100);
            noNumber(1, 0, 0, -100);
        });
        on(24, "not 0 where there is no LINE: STATE, both ways", () -> {
            noNumber(0, 2, 1, -100);
            noNumber(2, 0, -1, -100);
            noNumber(0, 3, 9, -100);
            noNumber(3, 0, -9, -100);
        });
        on(24, "VOID ahead of STATE", () -> {
            noNumber(0, 2, 10, VOID);
            noNumber(2, 4, 1, VOID);
        });
        on(24, "0 at none and another number at a LINE are well", () -> {
            ZeroForcer x = path(4);
            is(x.table(0, 2, 0), 0);
            is(x.count(8), 3);
            is(x.table(0, 1, -1), 1);
            is(x.entry(1, 0), -1);
        });
        on(24, "with itself 0 and another number are well, LINE or none", () -> {
            ZeroForcer x = made("n2;l0,1");
            is(x.table(0, 0, 0), 0);
            is(x.table(0, 0, 4), 0);
            is(x.table(0, 0, 0), 4);
            is(bare(1).table(0, 0, 9), 0);
        });
        on(24, "a POINT's number with itself is no LINE", () -> {
            ZeroForcer x = path(3);
            x.table(0, 0, 9);
            x.table(2, 2, -9);
            counts(x, 3, 2, 0, 1, 11, 1, 2, 1);
            is(x.of(0, 3), 1);
            is(x.of(0, 4), 2);
            is(x.of(2, 4), 2);
            is(x.round(1), 3);
            is(x.undo(), 3);
            is(x.of(2, 4), 2);
        });
        on(25, "the least and the greatest POINT, both ways alike", () -> {
            ZeroForcer x = made("n9;l0,8");
            x.table(0, 8, -9);
            x.table(8, 8, 9);
            is(x.entry(0, 8), -9);
            is(x.entry(8, 0), -9);
            is(x.entry(8, 8), 9);
            is(x.entry(0, 0), 0);
        });
        on(25, "i and j -1 and n are VOID", () -> {
            is(path(4).entry(-1, 0), VOID);
            is(path(4).entry(4, 0), VOID);
            is(path(4).entry(0, -1), VOID);
            is(path(4).entry(0, 4), VOID);
            is(bare(1).entry(0, 1), VOID);
            is(bare(9).entry(9, 9), VOID);
        });
        on(25, "i and j the least and the greatest int are VOID", () -> {
            is(path(4).entry(MIN, 0), VOID);
            is(path(4).entry(MAX, 0), VOID);
            is(path(4).entry(0, MIN), VOID);
            is(path(4).entry(0, MAX), VOID);
        });
    }

    private static void noNumber(int i, int j, int v, int refusal) {
        ZeroForcer x = path(4);
        is(x.table(i, j, v), refusal);
        is(x.count(8), 3);
        is(x.entry(0, 0), 0);
        is(x.entry(0, 1), 1);
        is(x.entry(0, 2), 0);
        is(x.count(1), 3);
    }

    private static void prime() {
        on(26, "each of the seven is taken, the least and the greatest among them", () -> {
            ZeroForcer x = new ZeroForcer();
            int was = 11;
            for (int p : PRIMES) {
                is(x.prime(p), was);
                is(x.count(4), p);
                was = p;
            }
            is(x.prime(11), 31);
        });
        on(26, "all others are BAD, 7 and 37 and what lies between", () -> {
            for (int from = -40; from < 1100; from += 300) {
                ZeroForcer x = made("m17");
                for (int p = from; p < from + 300; p++) {
                    boolean known = false;
                    for (int one : PRIMES) {
                        known |= one == p;
                    }
                    if (!known) {
                        is(x.prime(p), BAD);
                    }
                }
                is(x.count(4), 17);
                is(x.count(8), 1);
            }
        });
        on(26, "the least and the greatest int are BAD", () -> {
            is(new ZeroForcer().prime(MIN), BAD);
            is(new ZeroForcer().prime(MAX), BAD);
        });
    }

    /** Two POINTS with these numbers, 1 between them. */
    private static ZeroForcer twoWith(int one, int other) {
        ZeroForcer x = path(2);
        x.table(0, 0, one);
        x.table(1, 1, other);
        return x;
    }

    private static void rank() {
        on(27, "what 0 and 1 are taken, -1 and 2, the least and the greatest int are BAD", () -> {
            is(path(3).rank(0), 2);
            is(path(3).rank(1), 1);
            is(path(3).rank(-1), BAD);
            is(path(3).rank(2), BAD);
            is(path(3).rank(MIN), BAD);
            is(path(3).rank(MAX), BAD);
        });
        on(27, "one POINT: nought, and not", () -> {
            ZeroForcer x = bare(1);
            is(x.rank(0), 0);
            is(x.rank(1), 1);
            x.table(0, 0, -9);
            is(x.rank(0), 1);
            is(x.rank(1), 0);
        });
        on(27, "nine POINTS: nought, full, and all alike", () -> {
            is(bare(9).rank(0), 0);
            is(bare(9).rank(1), 9);
            ZeroForcer x = bare(9);
            for (int i = 0; i < 9; i++) {
                x.table(i, i, 9);
            }
            is(x.rank(0), 9);
            is(x.rank(1), 0);
            ZeroForcer y = whole(9);
            for (int i = 0; i < 9; i++) {
                y.table(i, i, 1);
            }
            is(y.rank(0), 1);
            is(y.rank(1), 8);
        });
        on(27, "by each PRIME just what it divides is nought", () -> {
            // one times other, less 1, is the PRIME itself
            int[] ones = {3, 2, 2, 4, 4, 5, 4};
            int[] others = {4, 7, 9, 5, 6, 6, 8};
            for (int i = 0; i < PRIMES.length; i++) {
                ZeroForcer x = twoWith(ones[i], others[i]);
                for (int p : PRIMES) {
                    x.prime(p);
                    is(x.rank(0), p == PRIMES[i] ? 1 : 2);
                    is(x.rank(1), p == PRIMES[i] ? 1 : 0);
                }
            }
        });
        on(27, "numbers below 0 are taken modulo p, too", () -> {
            // -9 is 2 by 11, 4 by 13, 8 by 17, 10 by 19, 14 by 23, 20 by 29, 22 by 31
            ZeroForcer x = twoWith(-9, 6);
            is(x.rank(0), 1);
            x.prime(13);
            is(x.rank(0), 2);
            ZeroForcer y = twoWith(-5, 6);
            is(y.rank(0), 2);
            y.prime(31);
            is(y.rank(0), 1);
        });
    }

    private static void kernel() {
        on(28, "one POINT: its row, and none", () -> {
            ZeroForcer x = bare(1);
            is(x.kernel(0, 0), 1);
            is(x.kernel(1, 0), NOT);
            x.table(0, 0, 9);
            is(x.kernel(0, 0), NOT);
        });
        on(28, "nine rows of nine, and no tenth", () -> {
            ZeroForcer x = bare(9);
            for (int k = 0; k < 9; k++) {
                for (int i = 0; i < 9; i++) {
                    is(x.kernel(k, i), k == i ? 1 : 0);
                }
            }
            is(x.kernel(9, 8), NOT);
        });
        on(28, "NULLITY 0: no row at all", () -> is(path(2).kernel(0, 0), NOT));
        on(28, "k -1 and the least int are BAD, the greatest int is NOT", () -> {
            is(bare(4).kernel(-1, 0), BAD);
            is(bare(4).kernel(MIN, 0), BAD);
            is(bare(4).kernel(MAX, 0), NOT);
        });
        on(28, "i -1 and n, the least and the greatest int are BAD", () -> {
            is(bare(4).kernel(0, -1), BAD);
            is(bare(4).kernel(0, 4), BAD);
            is(bare(4).kernel(0, MIN), BAD);
            is(bare(4).kernel(0, MAX), BAD);
            is(bare(9).kernel(0, 9), BAD);
        });
        on(28, "BAD ahead of NOT", () -> {
            is(path(2).kernel(0, 2), BAD);
            is(path(2).kernel(9, -1), BAD);
            is(path(2).kernel(-1, 9), BAD);
        });
        on(28, "columns are free that depend on those ahead of them", () -> {
            // of three alike the first leads; the others are free, and -1 stands at the first
            ZeroForcer x = whole(3);
            for (int i = 0; i < 3; i++) {
                x.table(i, i, 1);
            }
            int[][] rows = {{10, 1, 0}, {10, 0, 1}};
            for (int k = 0; k < 2; k++) {
                for (int i = 0; i < 3; i++) {
                    is(x.kernel(k, i), rows[k][i]);
                }
            }
            is(x.kernel(2, 0), NOT);
        });
        on(28, "a free column that depends on two ahead of it", () -> {
            // 1 1 1, 1 2 3 and 1 3 5: the last column is twice the second, less the first
            ZeroForcer x = whole(3);
            x.table(0, 0, 1);
            x.table(1, 1, 2);
            x.table(1, 2, 3);
            x.table(2, 2, 5);
            for (int p : PRIMES) {
                x.prime(p);
                is(x.kernel(0, 0), 1);
                is(x.kernel(0, 1), p - 2);
                is(x.kernel(0, 2), 1);
                is(x.kernel(1, 0), NOT);
            }
        });
        on(28, "a nought column ahead of all is free", () -> {
            ZeroForcer x = made("n3;l1,2");
            int[] row = {1, 0, 0};
            for (int i = 0; i < 3; i++) {
                is(x.kernel(0, i), row[i]);
            }
            is(x.kernel(1, 0), NOT);
        });
        on(28, "places are 0 .. p - 1, by each PRIME", () -> {
            ZeroForcer x = path(3);
            for (int p : PRIMES) {
                x.prime(p);
                is(x.kernel(0, 0), p - 1);
                is(x.kernel(0, 1), 0);
                is(x.kernel(0, 2), 1);
            }
        });
    }

    private static void mend() {
        on(29, "the least number, 0, and the greatest, p - 1", () -> {
            for (int p : PRIMES) {
                ZeroForcer x = twoWith(-1, 5);
                x.prime(p);
                is(x.mend(1, 0), p - 1);
                is(x.mend(1, 1), 1);
                is(bare(2).mend(1, 0), 0);
            }
        });
        on(29, "of like ones the least: none does better", () -> {
            is(path(2).mend(0, 0), 0);
            is(path(2).mend(0, 1), 2);
            is(path(2).mend(1, 0), 0);
        });
        on(29, "one POINT: its own number does not matter", () -> {
            ZeroForcer x = bare(1);
            x.table(0, 0, 7);
            is(x.mend(0, 0), 0);
            is(x.mend(0, 1), 0);
        });
        on(29, "the greatest POINT of nine", () -> {
            ZeroForcer x = whole(9);
            for (int i = 0; i < 8; i++) {
                x.table(i, i, 1);
            }
            is(x.mend(8, 0), 1);
            is(x.mend(8, 1), 1);
            is(x.mend(0, 1), 2);
        });
        on(29, "the greatest RANK, nine, by any number", () -> {
            is(pairsAndOne().mend(0, 0), 0);
            is(pairsAndOne().mend(0, 1), 9);
            is(pairsAndOne().mend(8, 0), 0);
            is(pairsAndOne().mend(8, 1), 8);
        });
        on(29, "POINTS -1 and n, the least and the greatest int are BAD", () -> {
            for (int what = 0; what < 2; what++) {
                is(path(4).mend(-1, what), BAD);
                is(path(4).mend(4, what), BAD);
                is(path(4).mend(MIN, what), BAD);
                is(path(4).mend(MAX, what), BAD);
            }
            is(bare(9).mend(9, 0), BAD);
            is(bare(1).mend(1, 0), BAD);
        });
        on(29, "what -1 and 2, the least and the greatest int are BAD", () -> {
            is(path(4).mend(0, -1), BAD);
            is(path(4).mend(0, 2), BAD);
            is(path(4).mend(0, MIN), BAD);
            is(path(4).mend(0, MAX), BAD);
        });
        on(29, "nothing changes by it", () -> {
            ZeroForcer x = twoWith(-1, 5);
            x.mend(1, 0);
            is(x.entry(1, 1), 5);
            is(x.rank(0), 2);
            is(x.count(8), 3);
        });
    }

    /** 0 and 1, each with a LINE to one of its own that has this number with itself. */
    private static ZeroForcer twoPairs(int one, int other) {
        ZeroForcer x = made("n4;l0,2;l1,3");
        x.table(2, 2, one);
        x.table(3, 3, other);
        return x;
    }

    /** Nine POINTS: four LINES apart, and the last one with a number of its own, so that RANK is nine. */
    private static ZeroForcer pairsAndOne() {
        ZeroForcer x = made("n9;l0,1;l2,3;l4,5;l6,7");
        x.table(8, 8, 1);
        return x;
    }

    private static void mendTwo() {
        on(30, "the least code, 0", () -> {
            is(bare(2).mendTwo(0, 1, 0), 0);
            is(bare(2).mendTwo(0, 1, 1), 0);
            is(bare(9).mendTwo(0, 8, 0), 0);
        });
        on(30, "the greatest code, p times p less 1", () -> {
            for (int p : PRIMES) {
                ZeroForcer x = twoPairs(-1, -1);
                x.prime(p);
                is(x.mendTwo(0, 1, 0), p * p - 1);
                is(x.mendTwo(0, 1, 1), 2);
            }
        });
        on(30, "the lesser POINT's number ahead, told either way", () -> {
            ZeroForcer x = twoPairs(-1, 1);
            is(x.mendTwo(0, 1, 0), 10 * 11 + 1);
            is(x.mendTwo(1, 0, 0), 10 * 11 + 1);
            ZeroForcer y = twoPairs(1, -1);
            is(y.mendTwo(0, 1, 0), 11 + 10);
            is(y.mendTwo(1, 0, 0), 11 + 10);
        });
        on(30, "of like ones the least: 1 and 1 for a LINE", () -> {
            is(path(2).mendTwo(0, 1, 0), 12);
            is(path(2).mendTwo(0, 1, 1), 1);
        });
        on(30, "the greatest RANK, nine, by any two numbers", () -> {
            is(pairsAndOne().mendTwo(0, 2, 0), 0);
            is(pairsAndOne().mendTwo(0, 2, 1), 9);
            is(pairsAndOne().mendTwo(8, 7, 0), 0);
            is(pairsAndOne().mendTwo(8, 7, 1), 8);
        });
        on(30, "a is b: BAD", () -> {
            is(path(4).mendTwo(0, 0, 0), BAD);
            is(path(4).mendTwo(3, 3, 1), BAD);
        });
        on(30, "a and b -1 and n are BAD", () -> {
            is(path(4).mendTwo(-1, 0, 0), BAD);
            is(path(4).mendTwo(4, 0, 0), BAD);
            is(path(4).mendTwo(0, -1, 0), BAD);
            is(path(4).mendTwo(0, 4, 0), BAD);
            is(bare(9).mendTwo(0, 9, 0), BAD);
        });
        on(30, "a and b the least and the greatest int are BAD", () -> {
            is(path(4).mendTwo(MIN, 0, 0), BAD);
            is(path(4).mendTwo(MAX, 0, 0), BAD);
            is(path(4).mendTwo(0, MIN, 0), BAD);
            is(path(4).mendTwo(0, MAX, 0), BAD);
        });
        on(30, "what -1 and 2, the least and the greatest int are BAD", () -> {
            is(path(4).mendTwo(0, 1, -1), BAD);
            is(path(4).mendTwo(0, 1, 2), BAD);
            is(path(4).mendTwo(0, 1, MIN), BAD);
            is(path(4).mendTwo(0, 1, MAX), BAD);
        });
        on(30, "one POINT has no other", () -> {
            is(bare(1).mendTwo(0, 0, 0), BAD);
            is(bare(1).mendTwo(0, 1, 0), BAD);
        });
        on(30, "nothing changes by it", () -> {
            ZeroForcer x = twoPairs(-1, 5);
            x.mendTwo(2, 3, 0);
            is(x.entry(2, 2), -1);
            is(x.entry(3, 3), 5);
            is(x.count(8), 4);
        });
    }

    public static void main(String[] args) {
        fort();
        forts();
        innerForts();
        meets();
        table();
        prime();
        rank();
        kernel();
        mend();
        mendTwo();
        covers(20, 30);
        end();
    }
}
