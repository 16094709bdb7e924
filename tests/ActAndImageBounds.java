/** The boundaries of promises 42 to 47: ACTS of POINTS and their TRACE, THE IMAGE, and what is counted. */
public final class ActAndImageBounds extends Bounds {
    private static final int ASKS = 0, SAYS = 1, TELLS = 2;

    private ActAndImageBounds() {
    }

    /** Of five POINTS each is of the KIND of its number, and the COSTS are 9. */
    private static ZeroForcer kinds() {
        ZeroForcer x = bare(5);
        for (int i = 0; i < 5; i++) {
            x.kind(i, i);
            x.cost(i, 9);
        }
        return x;
    }

    /** A POINT 0 of this KIND, with COST 9: i is 0, and m 9. */
    private static ZeroForcer ofKind(int kind) {
        ZeroForcer x = bare(1);
        x.kind(0, kind);
        x.cost(0, 9);
        return x;
    }

    private static void traced(ZeroForcer x, int... bodies) {
        for (int i = 0; i < bodies.length; i++) {
            is(x.trace(i), bodies[i]);
        }
        for (int i = bodies.length; i < 26; i++) {
            is(x.trace(i), NOT);
        }
    }

    private static void actEdges() {
        on(42, "acts 0 and 2 are taken, -1 and 3 are 0", () -> {
            ZeroForcer x = bare(9);
            is(x.act(8, 0, 1), 9);
            is(x.act(8, 2, 1), 3);
            is(x.act(8, -1, 1), 0);
            is(x.act(8, 3, 1), 0);
        });
        on(42, "acts the least and the greatest int are 0", () -> {
            is(bare(9).act(8, MIN, 1), 0);
            is(bare(9).act(8, MAX, 1), 0);
        });
        on(42, "POINTS -1 and n, the least and the greatest int are 0", () -> {
            int[] sizes = {1, 4, 9};
            for (int n : sizes) {
                for (int act = 0; act < 3; act++) {
                    is(bare(n).act(-1, act, 1), 0);
                    is(bare(n).act(n, act, 1), 0);
                    is(bare(n).act(MIN, act, 1), 0);
                    is(bare(n).act(MAX, act, 1), 0);
                }
            }
        });
        on(42, "nothing else, if BAD: THE TRACE stays", () -> {
            ZeroForcer x = kinds();
            x.act(4, SAYS, 5);
            x.act(5, ASKS, 5);
            x.act(-1, ASKS, 5);
            x.act(4, 3, 5);
            x.act(4, -1, 5);
            traced(x, 11, 20, 10, 50, 30, 1);
        });
        on(42, "i and m: the least and the greatest number and COST", () -> {
            ZeroForcer x = bare(9);
            is(x.act(0, ASKS, 0), 0);
            is(x.act(8, ASKS, 0), 8);
            x.kind(8, 4);
            is(x.act(8, TELLS, 0), 3);
            x.cost(8, 9);
            is(x.act(8, TELLS, 0), 12);
        });
    }

    /** Where x wraps: of the least int and the greatest, and next to them. */
    private static void wraps() {
        on(42, "POINT asks: x + i wraps", () -> {
            is(bare(9).act(8, ASKS, MAX), MIN + 7);
            is(bare(9).act(1, ASKS, MAX), MIN);
            is(bare(9).act(0, ASKS, MAX), MAX);
            is(bare(9).act(8, ASKS, MIN), MIN + 8);
            is(bare(9).act(8, ASKS, -8), 0);
        });
        on(42, "POINT says: asks(x) * 2 wraps", () -> {
            is(ofKind(0).act(0, SAYS, MAX), 1);
            is(ofKind(0).act(0, SAYS, MIN), 3);
            is(ofKind(0).act(0, SAYS, 1 << 30), MIN + 3);
            is(ofKind(0).act(0, SAYS, (1 << 30) - 1), MIN + 1);
        });
        on(42, "COUNTED tells: x + 2 wraps", () -> {
            is(ofKind(0).act(0, TELLS, MAX), MIN + 1);
            is(ofKind(0).act(0, TELLS, MAX - 1), MIN);
            is(ofKind(0).act(0, TELLS, MAX - 2), MAX);
            is(ofKind(1).act(0, TELLS, MIN), MIN + 2);
            is(ofKind(3).act(0, TELLS, MAX), MIN + 1);
        });
        on(42, "LEAF asks: the least int has no other sign", () -> {
            is(ofKind(1).act(0, ASKS, MIN), MIN);
            is(ofKind(1).act(0, ASKS, MAX), MIN + 1);
            is(ofKind(1).act(0, ASKS, MIN + 1), MAX);
            ZeroForcer x = bare(2);
            x.kind(1, 1);
            is(x.act(1, ASKS, MAX), MIN);
        });
        on(42, "LEAF says", () -> {
            is(ofKind(1).act(0, SAYS, MIN), 3);
            is(ofKind(1).act(0, SAYS, MAX), 5);
        });
        on(42, "HUB tells: times 3 wraps", () -> {
            is(ofKind(2).act(0, TELLS, MAX), MIN + 3);
            is(ofKind(2).act(0, TELLS, MIN), MIN + 6);
            // 715827880 and 2, times 3, is just below 2 to the 31
            is(ofKind(2).act(0, TELLS, 715827880), MAX - 1);
            is(ofKind(2).act(0, TELLS, 715827881), MIN + 1);
        });
        on(42, "HUB says", () -> {
            is(ofKind(2).act(0, SAYS, MIN), 9);
            is(ofKind(2).act(0, SAYS, MAX), 11);
        });
        on(42, "STAR says: ^ 5 of what wrapped", () -> {
            is(ofKind(3).act(0, SAYS, MIN), 3 ^ 5);
            is(ofKind(3).act(0, SAYS, MAX), 1 ^ 5);
            is(ofKind(3).act(0, SAYS, -2), -1 ^ 5);
        });
        on(42, "RIM tells: x - 1 wraps", () -> {
            is(ofKind(4).act(0, TELLS, MIN), MIN + 12);
            is(ofKind(4).act(0, TELLS, MAX), MIN + 9);
            is(ofKind(4).act(0, TELLS, -1), 9);
        });
        on(42, "RIM says", () -> {
            is(ofKind(4).act(0, SAYS, MIN), 15);
            is(ofKind(4).act(0, SAYS, MAX), 17);
        });
    }

    private static void traces() {
        on(43, "THE TRACE is empty at first", () -> traced(new ZeroForcer()));
        on(43, "THE TRACE is empty behind a first act() that is BAD", () -> {
            ZeroForcer x = new ZeroForcer();
            x.act(4, 0, 0);
            x.act(0, 3, 0);
            traced(x);
        });
        on(43, "places -1, the least and the greatest int are NOT", () -> {
            ZeroForcer x = kinds();
            x.act(4, SAYS, 0);
            is(x.trace(-1), NOT);
            is(x.trace(MIN), NOT);
            is(x.trace(MAX), NOT);
        });
        on(43, "the shortest: one body", () -> {
            ZeroForcer x = kinds();
            x.act(0, TELLS, 0);
            traced(x, 1);
            x.act(0, ASKS, 0);
            traced(x, 10);
        });
        on(43, "the longest: six bodies, as they began", () -> {
            ZeroForcer x = kinds();
            x.act(4, SAYS, 0);
            traced(x, 11, 20, 10, 50, 30, 1);
        });
        on(43, "a shorter one leaves nothing of a longer one", () -> {
            ZeroForcer x = kinds();
            x.act(4, SAYS, 0);
            x.act(4, ASKS, 0);
            traced(x, 20, 10);
            x.act(3, SAYS, 0);
            traced(x, 40, 11, 10, 1);
        });
        on(43, "the latest act() alone: it does not grow", () -> {
            ZeroForcer x = kinds();
            for (int i = 0; i < 30; i++) {
                x.act(4, SAYS, i);
            }
            traced(x, 11, 20, 10, 50, 30, 1);
        });
        on(43, "each KIND's bodies, or those of the next KIND above", () -> {
            int[][][] told = {
                {{10}, {11, 10, 1}, {1}},
                {{20, 10}, {11, 20, 10, 1}, {1}},
                {{20, 10}, {11, 20, 10, 30, 1}, {30, 1}},
                {{10}, {40, 11, 10, 1}, {1}},
                {{20, 10}, {11, 20, 10, 50, 30, 1}, {50, 30, 1}}};
            for (int kind = 0; kind < 5; kind++) {
                for (int act = 0; act < 3; act++) {
                    ZeroForcer x = ofKind(kind);
                    x.act(0, act, 7);
                    traced(x, told[kind][act]);
                }
            }
        });
    }

    private static void taken() {
        on(44, "each KIND taken for itself and each above, up to POINT", () -> {
            // by KIND: the KINDS it is one of, as bits
            int[] above = {1, 3, 7, 9, 23};
            ZeroForcer x = kinds();
            for (int kind = 0; kind < 5; kind++) {
                for (int k = 0; k < 5; k++) {
                    is(x.taken(kind, k), (above[kind] >> k & 1) == 1 ? 9 : STATE);
                }
            }
        });
        on(44, "the least and the greatest COST", () -> {
            is(bare(1).taken(0, 0), 0);
            is(ofKind(4).taken(0, 4), 9);
        });
        on(44, "KINDS -1 and 5, the least and the greatest int are BAD", () -> {
            is(kinds().taken(4, -1), BAD);
            is(kinds().taken(4, 5), BAD);
            is(kinds().taken(4, MIN), BAD);
            is(kinds().taken(4, MAX), BAD);
        });
        on(44, "POINTS -1 and n, the least and the greatest int are BAD", () -> {
            is(kinds().taken(-1, 0), BAD);
            is(kinds().taken(5, 0), BAD);
            is(kinds().taken(MIN, 0), BAD);
            is(kinds().taken(MAX, 0), BAD);
            is(bare(9).taken(9, 0), BAD);
            is(bare(1).taken(1, 0), BAD);
        });
        on(44, "BAD ahead of STATE", () -> {
            is(bare(4).taken(4, 1), BAD);
            is(bare(4).taken(0, 5), BAD);
        });
        on(44, "the greatest POINT of nine", () -> {
            is(bare(9).taken(8, 0), 0);
            is(bare(9).taken(8, 1), STATE);
        });
    }

    private static void images() {
        on(45, "no LINES, and all of nine POINTS", () -> {
            is(new ZeroForcer().image(), 0);
            is(bare(1).image(), 0);
            is(whole(9).image(), 36);
        });
        on(45, "taken again: the later one is THE IMAGE", () -> {
            ZeroForcer x = path(4);
            is(x.image(), 3);
            x.points(1);
            is(x.image(), 0);
            x.points(9);
            is(x.back(), 0);
            is(x.count(0), 1);
        });
        on(45, "nothing else changes by it", () -> {
            ZeroForcer x = made("P0,3;k0,4");
            x.undo();
            feed(x, "n9");
            x.image();
            counts(x, 4, 3, 0, 1, 11, 1, 2, 1, 3, 1, 2);
        });
        on(46, "there is none: STATE", () -> {
            ZeroForcer x = path(4);
            is(x.back(), STATE);
            counts(x, 4, 3, 0, 1, 11, 1, 2, 1, 3);
        });
        on(46, "from one POINT back to nine, and from nine to one", () -> {
            ZeroForcer x = whole(9);
            x.image();
            x.points(1);
            is(x.back(), 36);
            is(x.of(8, 4), 255);
            ZeroForcer y = bare(1);
            y.image();
            y.points(9);
            y.line(0, 8, 1);
            is(y.back(), 0);
            is(y.of(0, 4), 0);
            is(y.of(1, 0), BAD);
            y.points(9);
            is(y.of(0, 4), 0);
            is(y.entry(0, 8), 0);
        });
        on(46, "all that THE IMAGE holds, at its greatest", () -> {
            ZeroForcer x = made("n9;l7,8;k8,4;c8,9;r4,4;m31");
            x.table(7, 8, -9);
            x.table(8, 8, 9);
            x.image();
            say(x, "n9;r0,1;m11");
            is(x.back(), 1);
            counts(x, 9, 1, 4, 4, 31);
            is(x.of(8, 0), 4);
            is(x.of(8, 1), 9);
            is(x.entry(8, 7), -9);
            is(x.entry(8, 8), 9);
        });
        on(46, "THE TABLE comes back from the first number to the last", () -> {
            ZeroForcer x = whole(9);
            for (int i = 0; i < 9; i++) {
                x.table(i, i, 9 - i);
                x.table(i, (i + 1) % 9, -9 + i);
            }
            x.image();
            x.points(9);
            is(x.back(), 36);
            for (int i = 0; i < 9; i++) {
                is(x.entry(i, i), 9 - i);
                is(x.entry(i, (i + 1) % 9), -9 + i);
                is(x.entry((i + 1) % 9, i), -9 + i);
                is(x.entry(i, (i + 2) % 9), 1);
            }
        });
        on(46, "ROWS, THE TAPE and THE TRACE stay", () -> {
            ZeroForcer x = new ZeroForcer();
            x.image();
            tell(x, 0, 7);
            feed(x, "n9");
            x.act(0, SAYS, 1);
            x.back();
            is(x.get(0, 0), 7);
            is(x.count(10), 2);
            is(x.trace(0), 11);
        });
        on(46, "no CHANGES are left, to be UNDONE or DONE AGAIN", () -> {
            ZeroForcer x = path(4);
            x.undo();
            x.image();
            x.back();
            is(x.undo(), STATE);
            is(x.redo(), STATE);
        });
        on(46, "THE IMAGE is there behind back() and points(), and is not touched", () -> {
            ZeroForcer x = path(4);
            x.image();
            is(x.back(), 3);
            x.line(0, 1, 0);
            x.kind(0, 4);
            is(x.back(), 3);
            is(x.of(0, 0), 0);
            x.points(1);
            is(x.back(), 3);
        });
    }

    private static void counted() {
        on(47, "what 0 and 10 are taken, -1 and 11 are BAD", () -> {
            ZeroForcer x = new ZeroForcer();
            x.feed('n');
            is(x.count(0), 4);
            is(x.count(10), 1);
            is(x.count(-1), BAD);
            is(x.count(11), BAD);
        });
        on(47, "what the least and the greatest int is BAD", () -> {
            is(new ZeroForcer().count(MIN), BAD);
            is(new ZeroForcer().count(MAX), BAD);
        });
        on(47, "one POINT", () -> counts(bare(1), 1, 0, 0, 1, 11, 0, 0, 1, 0, 0, 0));
        on(47, "nine POINTS: no LINES, all LINES, a path", () -> {
            counts(bare(9), 9, 0, 0, 1, 11, 0, 0, 9);
            counts(whole(9), 9, 36, 0, 1, 11, 8, 8, 1);
            counts(path(9), 9, 8, 0, 1, 11, 1, 2, 1);
            counts(star(9), 9, 8, 0, 1, 11, 1, 8, 1);
        });
        on(47, "the greatest RULE, K and PRIME", () -> counts(made("r4,4;m31"), 4, 0, 4, 4, 31));
        on(47, "hang-together parts, the last POINT alone, and told from behind", () -> {
            is(path(9).count(7), 1);
            is(made("n9;P0,7").count(7), 2);
            is(made("n9;l8,0;l0,7;l7,1;l1,6;l6,2;l2,5;l5,3;l3,4").count(7), 1);
            is(made("n9;l0,8;l1,7;l2,6;l3,5").count(7), 5);
        });
        on(47, "CHANGES: none, twelve, and twelve of thirteen", () -> {
            ZeroForcer x = new ZeroForcer();
            is(x.count(8), 0);
            for (int i = 0; i < 12; i++) {
                x.cost(i % 4, 1 + i / 4);
            }
            is(x.count(8), 12);
            is(x.count(9), 0);
            x.kind(0, 1);
            is(x.count(8), 12);
            for (int i = 0; i < 12; i++) {
                x.undo();
            }
            is(x.count(8), 0);
            is(x.count(9), 12);
        });
        on(47, "THE TAPE: 0 and 80 bytes", () -> {
            ZeroForcer x = new ZeroForcer();
            is(x.count(10), 0);
            for (int i = 0; i < 81; i++) {
                x.feed('n');
            }
            is(x.count(10), 80);
        });
    }

    public static void main(String[] args) {
        actEdges();
        wraps();
        traces();
        taken();
        images();
        counted();
        covers(42, 47);
        end();
    }
}
