/** The boundaries of promises 1 to 7: a new object, POINTS, LINES, KINDS, COSTS, RULES and what is told of a POINT. */
public final class NetworkBounds extends Bounds {
    private static final int PLAIN = 0, SKEW = 1, MANY = 4;

    private NetworkBounds() {
    }

    private static void aNewObject() {
        on(1, "four POINTS, no fifth", () -> {
            ZeroForcer x = new ZeroForcer();
            is(x.count(0), 4);
            is(x.of(3, 0), 0);
            is(x.of(4, 0), BAD);
        });
        on(1, "no LINES", () -> {
            ZeroForcer x = new ZeroForcer();
            is(x.count(1), 0);
            for (int i = 0; i < 4; i++) {
                is(x.of(i, 4), 0);
            }
        });
        on(1, "KIND and COST are 0 at first", () -> {
            ZeroForcer x = new ZeroForcer();
            for (int i = 0; i < 4; i++) {
                is(x.of(i, 0), 0);
                is(x.of(i, 1), 0);
            }
        });
        on(1, "RULE is 0, K 1 and PRIME 11 at first", () -> counts(new ZeroForcer(), 4, 0, PLAIN, 1, 11));
        on(1, "THE TABLE is 0 at first", () -> {
            ZeroForcer x = new ZeroForcer();
            for (int i = 0; i < 4; i++) {
                for (int j = 0; j < 4; j++) {
                    is(x.entry(i, j), 0);
                }
            }
        });
        on(1, "ROWS are missing at first", () -> {
            ZeroForcer x = new ZeroForcer();
            for (int row = 0; row < 3; row++) {
                is(x.judge(row), MISSING);
                is(x.get(row, 0), VOID);
            }
        });
        on(1, "THE TAPE and THE TRACE are empty at first", () -> {
            ZeroForcer x = new ZeroForcer();
            is(x.count(10), 0);
            is(x.trace(0), NOT);
        });
        on(1, "there is no CHANGE and no IMAGE at first", () -> {
            ZeroForcer x = new ZeroForcer();
            is(x.undo(), STATE);
            is(x.redo(), STATE);
            is(x.back(), STATE);
        });
        on(1, "each object is its own", () -> {
            ZeroForcer x = whole(9);
            x.kind(0, 4);
            x.image();
            ZeroForcer y = new ZeroForcer();
            counts(y, 4, 0, 0, 1, 11, 0, 0, 4, 0, 0, 0);
            is(y.of(0, 0), 0);
            is(y.back(), STATE);
            is(x.count(1), 36);
        });
        on(1, "the constants", () -> {
            is(ZeroForcer.BAD, -1);
            is(ZeroForcer.NOT, -2);
            is(ZeroForcer.FULL, -3);
            is(ZeroForcer.STATE, -5);
            is(ZeroForcer.VOID, MIN);
        });
        on(1, "all of 512 calls are answered", () -> {
            ZeroForcer x = new ZeroForcer();
            for (int call = 1; call < 512; call++) {
                is(x.cost(call % 4, call % 10), call < 5 ? 0 : (call - 4) % 10);
            }
            is(x.count(8), 12);
        });
    }

    private static void points() {
        on(2, "the least n is 1", () -> {
            ZeroForcer x = new ZeroForcer();
            is(x.points(1), 4);
            is(x.count(0), 1);
            is(x.of(0, 0), 0);
            is(x.of(1, 0), BAD);
        });
        on(2, "n 0 is BAD", () -> refused(0));
        on(2, "the greatest n is 9", () -> {
            ZeroForcer x = new ZeroForcer();
            is(x.points(9), 4);
            is(x.count(0), 9);
            is(x.of(8, 0), 0);
            is(x.of(9, 0), BAD);
        });
        on(2, "n 10 is BAD", () -> refused(10));
        on(2, "n -1 is BAD", () -> refused(-1));
        on(2, "the least int is BAD", () -> refused(MIN));
        on(2, "the greatest int is BAD", () -> refused(MAX));
        on(2, "from one POINT to nine and back", () -> {
            ZeroForcer x = new ZeroForcer();
            is(x.points(1), 4);
            is(x.points(9), 1);
            is(x.points(1), 9);
            is(x.points(1), 1);
        });
        on(2, "as many POINTS as there are: all is as at first, too", () -> {
            ZeroForcer x = made("P0,3;k1,2;c1,5");
            is(x.points(4), 4);
            counts(x, 4, 0, 0, 1, 11, 0, 0, 4, 0, 0);
            is(x.of(1, 0), 0);
            is(x.of(1, 1), 0);
        });
        on(2, "POINTS that went and come again are as at first", () -> {
            ZeroForcer x = made("n9;k8,4;c8,9;l7,8");
            x.table(8, 8, 9);
            x.points(1);
            x.points(9);
            is(x.of(8, 0), 0);
            is(x.of(8, 1), 0);
            is(x.of(8, 4), 0);
            is(x.entry(8, 8), 0);
            is(x.entry(7, 8), 0);
        });
        on(2, "THE TABLE is all 0, from the first number to the last", () -> {
            ZeroForcer x = whole(9);
            for (int i = 0; i < 9; i++) {
                x.table(i, i, 9 - i);
            }
            x.points(9);
            for (int i = 0; i < 9; i++) {
                for (int j = 0; j < 9; j++) {
                    is(x.entry(i, j), 0);
                }
            }
        });
        pointsLeave();
    }

    private static void refused(int n) {
        ZeroForcer x = made("P0,3;k1,2");
        is(x.points(n), BAD);
        counts(x, 4, 3, 0, 1, 11, 1, 2, 1, 4, 0);
        is(x.of(1, 0), 2);
    }

    /** points() makes all as at first but what the document names. */
    private static void pointsLeave() {
        on(2, "RULE, K and PRIME stay", () -> {
            ZeroForcer x = made("r4,3;m31");
            x.points(9);
            counts(x, 9, 0, MANY, 3, 31);
        });
        on(2, "ROWS stay", () -> {
            ZeroForcer x = new ZeroForcer();
            tell(x, 2, 7, 8);
            x.row(1, 0);
            x.points(1);
            is(x.get(2, 1), 8);
            is(x.judge(1), STATE);
            is(x.judge(0), MISSING);
        });
        on(2, "THE TAPE stays", () -> {
            ZeroForcer x = new ZeroForcer();
            feed(x, "l0,8");
            x.points(9);
            is(x.count(10), 4);
            is(x.read(), 1);
            is(x.of(0, 4), 256);
        });
        on(2, "THE IMAGE stays", () -> {
            ZeroForcer x = made("P0,3");
            x.image();
            x.points(9);
            is(x.back(), 3);
            is(x.count(0), 4);
        });
        on(2, "THE TRACE stays", () -> {
            ZeroForcer x = new ZeroForcer();
            x.act(0, 1, 1);
            x.points(1);
            is(x.trace(0), 11);
            is(x.trace(2), 1);
        });
        on(2, "no CHANGES are left, to be UNDONE or DONE AGAIN", () -> {
            ZeroForcer x = made("P0,3");
            x.undo();
            x.points(4);
            is(x.count(8), 0);
            is(x.count(9), 0);
            is(x.undo(), STATE);
            is(x.redo(), STATE);
        });
        on(2, "points() that is refused leaves the CHANGES", () -> {
            ZeroForcer x = made("P0,3");
            x.undo();
            is(x.points(0), BAD);
            is(x.points(10), BAD);
            is(x.redo(), 0);
            is(x.undo(), 2);
        });
    }

    private static void lines() {
        on(3, "is 1 and 0 are taken", () -> {
            ZeroForcer x = new ZeroForcer();
            is(x.line(0, 1, 0), 0);
            is(x.line(0, 1, 1), 0);
            is(x.line(0, 1, 1), 1);
            is(x.line(0, 1, 0), 1);
            is(x.line(0, 1, 0), 0);
        });
        on(3, "is -1 and 2 are BAD", () -> {
            noLine(0, 1, -1);
            noLine(0, 1, 2);
        });
        on(3, "is the least and the greatest int is BAD", () -> {
            noLine(0, 1, MIN);
            noLine(0, 1, MAX);
        });
        on(3, "the least and the greatest POINT are taken", () -> {
            ZeroForcer x = bare(9);
            is(x.line(0, 8, 1), 0);
            is(x.of(0, 4), 256);
            is(x.of(8, 4), 1);
            is(x.line(8, 0, 1), 1);
        });
        on(3, "a -1 and a n are BAD", () -> {
            noLine(-1, 0, 1);
            noLine(4, 0, 1);
        });
        on(3, "b -1 and b n are BAD", () -> {
            noLine(0, -1, 1);
            noLine(0, 4, 1);
        });
        on(3, "a and b the least and the greatest int are BAD", () -> {
            noLine(MIN, 0, 1);
            noLine(MAX, 0, 1);
            noLine(0, MIN, 1);
            noLine(0, MAX, 1);
        });
        on(3, "a is b: BAD", () -> {
            noLine(0, 0, 1);
            noLine(3, 3, 1);
            noLine(3, 3, 0);
        });
        on(3, "of nine POINTS the tenth is none", () -> is(bare(9).line(9, 0, 1), BAD));
        on(3, "one POINT has no other", () -> {
            is(bare(1).line(0, 1, 1), BAD);
            is(bare(1).line(0, 0, 1), BAD);
        });
        on(3, "all the LINES there can be, and none again", () -> {
            ZeroForcer x = whole(9);
            is(x.count(1), 36);
            for (int i = 0; i < 9; i++) {
                is(x.of(i, 4), 511 - (1 << i));
                for (int j = 0; j < i; j++) {
                    is(x.line(i, j, 0), 1);
                }
            }
            is(x.count(1), 0);
        });
        on(3, "a LINE is one both ways", () -> {
            ZeroForcer x = new ZeroForcer();
            x.line(3, 1, 1);
            is(x.of(1, 4), 8);
            is(x.of(3, 4), 2);
            is(x.line(1, 3, 0), 1);
            is(x.of(3, 4), 0);
        });
        on(3, "THE TABLE has 1 as a LINE comes, 0 as it goes", () -> {
            ZeroForcer x = new ZeroForcer();
            x.line(2, 0, 1);
            is(x.entry(0, 2), 1);
            is(x.entry(2, 0), 1);
            x.table(0, 2, -9);
            is(x.line(0, 2, 1), 1);
            is(x.entry(0, 2), -9);
            x.line(0, 2, 0);
            is(x.entry(0, 2), 0);
            is(x.entry(2, 0), 0);
            x.line(0, 2, 1);
            is(x.entry(2, 0), 1);
        });
    }

    private static void noLine(int a, int b, int is) {
        ZeroForcer x = made("P0,3");
        is(x.line(a, b, is), BAD);
        counts(x, 4, 3, 0, 1, 11, 1, 2, 1, 3, 0);
    }

    private static void kindsAndCosts() {
        on(4, "KINDS 0 and 4 are taken, at the least and the greatest POINT", () -> {
            ZeroForcer x = bare(9);
            is(x.kind(0, 4), 0);
            is(x.kind(0, 0), 4);
            is(x.kind(8, 4), 0);
            is(x.kind(8, 4), 4);
            is(x.of(8, 0), 4);
        });
        on(4, "KINDS -1 and 5 are BAD", () -> noKind(0, -1, 5));
        on(4, "KINDS the least and the greatest int are BAD", () -> noKind(0, MIN, MAX));
        on(4, "POINTS -1 and n are BAD", () -> {
            noKind(-1, 0, 1);
            noKind(4, 0, 1);
        });
        on(4, "POINTS the least and the greatest int are BAD", () -> {
            noKind(MIN, 0, 1);
            noKind(MAX, 0, 1);
        });
        on(4, "of one and of nine POINTS there is no next one", () -> {
            is(bare(1).kind(1, 1), BAD);
            is(bare(9).kind(9, 1), BAD);
        });
        on(5, "COSTS 0 and 9 are taken, at the least and the greatest POINT", () -> {
            ZeroForcer x = bare(9);
            is(x.cost(0, 9), 0);
            is(x.cost(0, 0), 9);
            is(x.cost(8, 9), 0);
            is(x.cost(8, 9), 9);
            is(x.of(8, 1), 9);
        });
        on(5, "COSTS -1 and 10 are BAD", () -> noCost(0, -1, 10));
        on(5, "COSTS the least and the greatest int are BAD", () -> noCost(0, MIN, MAX));
        on(5, "POINTS -1 and n are BAD", () -> {
            noCost(-1, 0, 1);
            noCost(4, 0, 1);
        });
        on(5, "POINTS the least and the greatest int are BAD", () -> {
            noCost(MIN, 0, 1);
            noCost(MAX, 0, 1);
        });
        on(5, "of one and of nine POINTS there is no next one", () -> {
            is(bare(1).cost(1, 1), BAD);
            is(bare(9).cost(9, 1), BAD);
        });
    }

    private static void noKind(int point, int one, int other) {
        ZeroForcer x = made("k0,3");
        is(x.kind(point, one), BAD);
        is(x.kind(point, other), BAD);
        is(x.of(0, 0), 3);
        is(x.count(8), 1);
    }

    private static void noCost(int point, int one, int other) {
        ZeroForcer x = made("c0,3");
        is(x.cost(point, one), BAD);
        is(x.cost(point, other), BAD);
        is(x.of(0, 1), 3);
        is(x.count(8), 1);
    }

    private static void rules() {
        on(6, "RULES 0 and 4, K 1 and 4 are taken", () -> {
            ZeroForcer x = new ZeroForcer();
            is(x.rule(4, 4), 1);
            is(x.rule(0, 4), 44);
            is(x.rule(4, 1), 4);
            is(x.rule(0, 1), 41);
            counts(x, 4, 0, 0, 1);
        });
        on(6, "RULES -1 and 5 are BAD", () -> noRule(-1, 1, 5, 1));
        on(6, "K 0 and 5 are BAD by MANY", () -> noRule(4, 0, 4, 5));
        on(6, "K 0 and 5 are BAD by any other RULE, too", () -> {
            for (int rule = 0; rule < 4; rule++) {
                noRule(rule, 0, rule, 5);
            }
        });
        on(6, "RULE the least and the greatest int is BAD", () -> noRule(MIN, 1, MAX, 1));
        on(6, "K the least and the greatest int is BAD", () -> noRule(1, MIN, 1, MAX));
        on(6, "K -1 is BAD", () -> noRule(1, -1, -1, -1));
    }

    private static void noRule(int rule, int k, int otherRule, int otherK) {
        ZeroForcer x = made("r1,2");
        is(x.rule(rule, k), BAD);
        is(x.rule(otherRule, otherK), BAD);
        counts(x, 4, 0, SKEW, 2);
        is(x.count(8), 1);
    }

    private static void ofPoints() {
        on(7, "COUNTS by the least COST", () -> countsBy(0, 1, 1, 1, 1, 4));
        on(7, "COUNTS by the next COST: half of 2", () -> countsBy(1, 2, 2, 3, 1, 6));
        on(7, "COUNTS by COST 2: half of 3, up", () -> countsBy(2, 3, 3, 5, 2, 8));
        on(7, "COUNTS by COST 8: half of 9, up", () -> countsBy(8, 9, 9, 17, 5, 20));
        on(7, "COUNTS by the greatest COST", () -> countsBy(9, 10, 10, 19, 5, 22));
        on(7, "the least and the greatest DEGREE", () -> {
            is(bare(9).of(4, 3), 0);
            is(bare(1).of(0, 3), 0);
            is(star(9).of(0, 3), 8);
            is(star(9).of(8, 3), 1);
        });
        on(7, "no NEIGHBOURS and all others", () -> {
            is(bare(9).of(8, 4), 0);
            is(star(9).of(0, 4), 510);
            is(whole(9).of(8, 4), 255);
        });
        on(7, "what 0 and 4 are taken, -1 and 5 are BAD", () -> {
            ZeroForcer x = made("k0,3;l0,3");
            is(x.of(0, 0), 3);
            is(x.of(0, 4), 8);
            is(x.of(0, -1), BAD);
            is(x.of(0, 5), BAD);
        });
        on(7, "what the least and the greatest int is BAD", () -> {
            is(new ZeroForcer().of(0, MIN), BAD);
            is(new ZeroForcer().of(0, MAX), BAD);
        });
        on(7, "POINTS -1 and n, the least and the greatest int are BAD", () -> {
            for (int what = 0; what < 5; what++) {
                is(new ZeroForcer().of(-1, what), BAD);
                is(new ZeroForcer().of(4, what), BAD);
                is(new ZeroForcer().of(MIN, what), BAD);
                is(new ZeroForcer().of(MAX, what), BAD);
            }
        });
        on(7, "of one and of nine POINTS there is no next one", () -> {
            is(bare(1).of(1, 0), BAD);
            is(bare(9).of(9, 0), BAD);
        });
    }

    /** COUNTS of a POINT, a LEAF, a HUB, a STAR and a RIM of this COST. */
    private static void countsBy(int cost, int... told) {
        ZeroForcer x = new ZeroForcer();
        x.cost(3, cost);
        for (int kind = 0; kind < 5; kind++) {
            x.kind(3, kind);
            is(x.of(3, 2), told[kind]);
        }
    }

    public static void main(String[] args) {
        aNewObject();
        points();
        lines();
        kindsAndCosts();
        rules();
        ofPoints();
        covers(1, 7);
        end();
    }
}
