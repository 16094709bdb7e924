/** The boundaries of promises 31 to 34 and 38 to 41: FITS, JUDGED, CHANGES and ROWS. */
public final class RowAndChangeBounds extends Bounds {
    private static final int SKEW = 1, PARTED = 2, WIDE = 3, MANY = 4;

    private RowAndChangeBounds() {
    }

    private static void fits() {
        on(31, "m 1: any set fits each RULE and the least K", () -> {
            ZeroForcer x = path(9);
            tell(x, 0, 0);
            tell(x, 1, 511);
            for (int row = 0; row < 2; row++) {
                is(x.fits(row, 1, 0), 31);
                is(x.fits(row, 1, 1), 1);
            }
        });
        on(31, "m 40 of forty places", () -> {
            ZeroForcer x = bare(1);
            x.row(2, 40);
            is(x.fits(2, 40, 0), 31);
            is(x.fits(2, 40, 1), 1);
            x.put(2, 39, 1);
            is(x.fits(2, 39, 0), 31);
            is(x.fits(2, 40, 0), 0);
            is(x.fits(2, 40, 1), NOT);
        });
        on(31, "m 0 and 41 are BAD", () -> noFit(0, 0, 0, 41));
        on(31, "m -1, the least and the greatest int are BAD", () -> {
            noFit(0, -1, 0, MIN);
            noFit(0, MAX, 0, -1);
        });
        on(31, "ROWS -1 and 3, the least and the greatest int are BAD", () -> {
            noFit(-1, 1, 3, 1);
            noFit(MIN, 1, MAX, 1);
        });
        on(31, "what -1 and 2, the least and the greatest int are BAD", () -> {
            ZeroForcer x = new ZeroForcer();
            x.row(0, 1);
            is(x.fits(0, 1, -1), BAD);
            is(x.fits(0, 1, 2), BAD);
            is(x.fits(0, 1, MIN), BAD);
            is(x.fits(0, 1, MAX), BAD);
        });
        on(31, "a missing ROW: -11, but BAD ahead of it", () -> {
            ZeroForcer x = new ZeroForcer();
            is(x.fits(0, 1, 0), MISSING);
            is(x.fits(2, 40, 1), MISSING);
            is(x.fits(0, 0, 0), BAD);
            is(x.fits(0, 41, 0), BAD);
            is(x.fits(0, 1, 2), BAD);
        });
        on(31, "as many places as the ROW has, and one more: -13", () -> {
            ZeroForcer x = new ZeroForcer();
            x.row(0, 0);
            x.row(1, 39);
            is(x.fits(0, 1, 0), OUTSIDE);
            is(x.fits(1, 39, 0), 31);
            is(x.fits(1, 40, 0), OUTSIDE);
            is(x.fits(1, 40, 1), OUTSIDE);
            is(x.fits(1, 41, 0), BAD);
            is(x.fits(1, 40, 2), BAD);
        });
        on(31, "the first place is no set", () -> {
            int[] none = {-1, 16, 512, MIN, MAX};
            for (int set : none) {
                ZeroForcer x = path(4);
                tell(x, 0, set, set);
                is(x.fits(0, 1, 0), 0);
                is(x.fits(0, 2, 0), 0);
                is(x.fits(0, 1, 1), NOT);
            }
        });
        on(31, "of one and of nine POINTS: all, and one beyond", () -> {
            ZeroForcer x = bare(1);
            tell(x, 0, 1, 1);
            tell(x, 1, 2, 2);
            is(x.fits(0, 2, 0), 31);
            is(x.fits(1, 2, 0), 0);
            ZeroForcer y = bare(9);
            tell(y, 0, 511, 511);
            tell(y, 1, 512, 512);
            is(y.fits(0, 2, 0), 31);
            is(y.fits(1, 2, 0), 0);
        });
        on(31, "a later place is no set", () -> {
            ZeroForcer x = bare(4);
            tell(x, 0, 1, 1, 17);
            is(x.fits(0, 2, 0), 31);
            is(x.fits(0, 3, 0), 0);
            x.put(0, 2, MIN + 1);
            is(x.fits(0, 3, 0), 0);
        });
        fittingK();
    }

    private static void noFit(int row, int m, int otherRow, int otherM) {
        ZeroForcer x = new ZeroForcer();
        x.row(0, 40);
        is(x.fits(row, m, 0), BAD);
        is(x.fits(otherRow, otherM, 1), BAD);
    }

    private static void fittingK() {
        on(31, "the least K: 1, 4, and none", () -> {
            for (int leaves = 1; leaves < 6; leaves++) {
                ZeroForcer x = star(leaves + 1);
                tell(x, 0, 1, (2 << leaves) - 1);
                is(x.fits(0, 2, 1), leaves < 5 ? leaves : NOT);
            }
        });
        on(31, "K is as it is for the RULES: fitting from 4 on", () -> {
            ZeroForcer x = star(5);
            tell(x, 0, 1, 31);
            for (int k = 1; k < 5; k++) {
                x.rule(0, k);
                is(x.fits(0, 2, 0), k < 4 ? (1 << PARTED) + (1 << WIDE) : (1 << PARTED) + (1 << WIDE) + (1 << MANY));
            }
        });
        on(31, "whatever RULE is, and it stays", () -> {
            for (int rule = 0; rule < 5; rule++) {
                ZeroForcer x = by(path(2), rule, 3);
                tell(x, 0, 0, 3);
                is(x.fits(0, 2, 0), 1 << SKEW);
                is(x.fits(0, 2, 1), NOT);
                counts(x, 2, 1, rule, 3);
            }
        });
        on(31, "WIDE: its first ROUND alone is wide", () -> {
            ZeroForcer x = made("n4;l0,1;l1,2;l1,3");
            tell(x, 0, 1, 3, 3);
            is(x.fits(0, 3, 0) >> WIDE & 1, 1);
            tell(x, 0, 1, 3, 15);
            is(x.fits(0, 3, 0) >> WIDE & 1, 0);
        });
    }

    private static void judge() {
        on(32, "a ROW without a place: STATE; a missing one: -11", () -> {
            ZeroForcer x = new ZeroForcer();
            is(x.judge(0), MISSING);
            x.row(0, 0);
            is(x.judge(0), STATE);
            x.row(0, -1);
            is(x.judge(0), MISSING);
        });
        on(32, "ROWS 0 and 2 are taken, -1 and 3 are BAD", () -> {
            ZeroForcer x = new ZeroForcer();
            is(x.judge(0), MISSING);
            is(x.judge(2), MISSING);
            is(x.judge(-1), BAD);
            is(x.judge(3), BAD);
        });
        on(32, "ROWS the least and the greatest int are BAD", () -> {
            is(new ZeroForcer().judge(MIN), BAD);
            is(new ZeroForcer().judge(MAX), BAD);
        });
        on(32, "one place: the empty set and all POINTS are well", () -> {
            int[] sizes = {1, 4, 9};
            for (int n : sizes) {
                judged(path(n), -2, 0);
                judged(path(n), -2, (1 << n) - 1);
            }
        });
        on(32, "place 0 is no set", () -> {
            judged(path(1), 0, 2);
            judged(path(4), 0, 16, 1);
            judged(path(9), 0, 512);
            judged(path(9), 0, -1);
            judged(path(9), 0, MIN);
            judged(path(9), 0, MAX);
        });
        on(32, "the told one is no POINT", () -> {
            judged(path(4), 1, 1, -1);
            judged(path(4), 1, 1, 4);
            judged(path(4), 1, 1, 33);
            judged(path(4), 1, 1, MIN);
            judged(path(4), 1, 1, MAX);
            judged(path(4), 1, 1, MIN + 1);
            judged(path(9), 1, 1, 9);
            judged(path(1), 1, 1, 1);
        });
        on(32, "the told one is COLOURED already", () -> {
            judged(path(4), 1, 1, 0);
            judged(path(4), 2, 1, 1, 1);
            judged(path(9), 1, 511, 8);
        });
        on(32, "nobody can force it", () -> {
            judged(path(4), 1, 0, 0);
            judged(path(4), 1, 1, 2);
            judged(star(4), 1, 1, 1);
            judged(bare(9), 1, 255, 8);
        });
        on(32, "all of nine POINTS, and a tenth place", () -> {
            judged(path(9), -2, 1, 1, 2, 3, 4, 5, 6, 7, 8);
            judged(path(9), 9, 1, 1, 2, 3, 4, 5, 6, 7, 8, 8);
            judged(path(9), 9, 1, 1, 2, 3, 4, 5, 6, 7, 8, 9);
        });
        on(32, "forty places", () -> {
            ZeroForcer x = path(9);
            x.row(0, 40);
            is(x.judge(0), 1);
            x.film(0, 1, 39);
            is(x.judge(0), 1);
        });
        on(32, "a later one may be told by what came ahead", () -> {
            judged(path(9), -2, 16 + 8, 5, 2, 6, 1, 0, 7, 8);
            judged(path(9), 4, 16 + 8, 5, 2, 6, 0);
        });
        on(32, "by PLAIN, whatever RULE is", () -> {
            for (int rule = 0; rule < 5; rule++) {
                judged(by(path(2), rule, 4), 1, 0, 0);
                judged(by(star(4), rule, 4), 1, 1, 1);
                judged(by(star(4), rule, 4), -2, 7, 3);
            }
        });
    }

    private static void judged(ZeroForcer x, int want, int... places) {
        tell(x, 1, places);
        is(x.judge(1), want);
    }

    // ---- changes

    /** One call that is a CHANGE, and what tells whether it stands. */
    private interface Call {
        int ask(ZeroForcer x);
    }

    private static void oneChange(String name, Call change, Call look, int before, int after) {
        on(33, name + " is a CHANGE that is UNDONE", () -> {
            ZeroForcer x = new ZeroForcer();
            change.ask(x);
            is(x.count(8), 1);
            is(x.undo(), 0);
            is(look.ask(x), before);
            is(x.undo(), STATE);
        });
        on(34, name + " is a CHANGE that is DONE AGAIN", () -> {
            ZeroForcer x = new ZeroForcer();
            change.ask(x);
            x.undo();
            is(x.count(9), 1);
            is(x.redo(), 0);
            is(look.ask(x), after);
            is(x.redo(), STATE);
        });
        on(33, name + " told again is none", () -> {
            ZeroForcer x = new ZeroForcer();
            change.ask(x);
            change.ask(x);
            is(x.count(8), 1);
            is(look.ask(x), after);
        });
        on(34, name + " told again drops nothing that can be DONE AGAIN", () -> {
            ZeroForcer x = new ZeroForcer();
            change.ask(x);
            x.cost(3, 9);
            x.undo();
            change.ask(x);
            is(x.redo(), 0);
            is(x.of(3, 1), 9);
        });
    }

    private static void eachChange() {
        oneChange("line()", x -> x.line(0, 3, 1), x -> x.entry(0, 3), 0, 1);
        oneChange("kind()", x -> x.kind(0, 4), x -> x.of(0, 0), 0, 4);
        oneChange("cost()", x -> x.cost(0, 9), x -> x.of(0, 1), 0, 9);
        oneChange("rule() of RULE", x -> x.rule(4, 1), x -> x.count(2), 0, 4);
        oneChange("rule() of K alone", x -> x.rule(0, 4), x -> x.count(3), 1, 4);
        oneChange("rule() of both", x -> x.rule(3, 2), x -> 10 * x.count(2) + x.count(3), 1, 32);
        oneChange("table()", x -> x.table(3, 3, -9), x -> x.entry(3, 3), 0, -9);
        oneChange("prime()", x -> x.prime(31), x -> x.count(4), 11, 31);
        oneChange("l by read()", x -> say(x, "l0,3"), x -> x.of(3, 4), 0, 1);
        oneChange("k by read()", x -> say(x, "k0,4"), x -> x.of(0, 0), 0, 4);
        oneChange("c by read()", x -> say(x, "c0,9"), x -> x.of(0, 1), 0, 9);
        oneChange("r by read()", x -> say(x, "r4,4"), x -> x.count(2), 0, 4);
        oneChange("m by read()", x -> say(x, "m31"), x -> x.count(4), 11, 31);
        on(33, "a LINE that goes is a CHANGE: what THE TABLE had there comes back", () -> {
            ZeroForcer x = made("l0,3");
            x.table(0, 3, -9);
            x.line(3, 0, 0);
            is(x.count(8), 3);
            is(x.undo(), 2);
            is(x.entry(3, 0), -9);
            is(x.of(0, 4), 8);
            is(x.redo(), 0);
            is(x.entry(0, 3), 0);
            is(x.of(3, 4), 0);
        });
        on(33, "u by read() is one, too", () -> {
            ZeroForcer x = made("l0,3;u0,3");
            is(x.count(8), 2);
            x.undo();
            is(x.entry(0, 3), 1);
        });
        on(33, "P and C make one for each LINE that was not there", () -> {
            is(made("P0,3").count(8), 3);
            is(made("C0,3").count(8), 4);
            is(made("l1,2;P0,3").count(8), 3);
            is(made("P0,3;C0,3").count(8), 4);
            is(made("C0,3;C0,3;P0,3").count(8), 4);
            ZeroForcer x = made("C0,3");
            x.undo();
            is(x.of(0, 4), 2);
            x.undo();
            is(x.of(3, 4), 0);
        });
        on(33, "telling none where there is none is no CHANGE", () -> {
            ZeroForcer x = new ZeroForcer();
            x.line(0, 1, 0);
            x.kind(0, 0);
            x.cost(0, 0);
            x.rule(0, 1);
            x.table(0, 0, 0);
            x.table(0, 1, 0);
            x.prime(11);
            is(x.count(8), 0);
        });
        on(33, "what else is called is no CHANGE", () -> {
            ZeroForcer x = made("P0,3");
            x.row(0, 3);
            x.put(0, 0, 1);
            x.film(1, 1, 3);
            x.feed('x');
            x.wipe();
            x.act(0, 1, 5);
            x.image();
            x.spread(0);
            x.lineSpread(0, 3);
            x.best(0);
            x.mend(0, 0);
            x.mendTwo(0, 1, 0);
            x.fits(1, 3, 0);
            x.judge(1);
            is(x.count(8), 3);
            is(x.count(9), 0);
        });
    }

    private static void manyChanges() {
        on(33, "no CHANGE: STATE, again and again", () -> {
            ZeroForcer x = new ZeroForcer();
            is(x.undo(), STATE);
            is(x.undo(), STATE);
            is(x.count(8), 0);
            is(x.count(9), 0);
        });
        on(33, "twelve CHANGES: all are UNDONE", () -> {
            ZeroForcer x = withChanges(12);
            is(x.count(8), 12);
            for (int left = 11; left >= 0; left--) {
                is(x.undo(), left);
            }
            is(x.undo(), STATE);
            is(x.of(0, 1), 0);
            is(x.count(9), 12);
        });
        on(33, "a thirteenth: the eldest is none any more", () -> {
            ZeroForcer x = withChanges(13);
            is(x.count(8), 12);
            for (int left = 11; left >= 0; left--) {
                is(x.undo(), left);
            }
            is(x.undo(), STATE);
            // the first one was COST 1 of POINT 0, and stays
            is(x.of(0, 1), 1);
            is(x.of(1, 1), 0);
            is(x.count(9), 12);
        });
        on(33, "thirty: the latest twelve alone", () -> {
            ZeroForcer x = withChanges(30);
            is(x.count(8), 12);
            for (int left = 11; left >= 0; left--) {
                is(x.undo(), left);
            }
            is(x.of(0, 1), 5);
            is(x.of(1, 1), 5);
            is(x.of(2, 1), 4);
            is(x.of(3, 1), 4);
        });
        on(33, "the latest first", () -> {
            ZeroForcer x = made("c0,1;c0,2;k1,3;c0,3");
            x.undo();
            is(x.of(0, 1), 2);
            is(x.of(1, 0), 3);
            x.undo();
            is(x.of(1, 0), 0);
            is(x.of(0, 1), 2);
            x.undo();
            is(x.of(0, 1), 1);
        });
        on(34, "no CHANGE UNDONE: STATE, with none and with twelve that are done", () -> {
            is(new ZeroForcer().redo(), STATE);
            ZeroForcer x = withChanges(12);
            is(x.redo(), STATE);
            is(x.count(8), 12);
        });
        on(34, "twelve UNDONE: all are DONE AGAIN, the one UNDONE last first", () -> {
            ZeroForcer x = withChanges(12);
            for (int i = 0; i < 12; i++) {
                x.undo();
            }
            is(x.redo(), 11);
            is(x.of(0, 1), 1);
            for (int left = 10; left >= 0; left--) {
                is(x.redo(), left);
            }
            is(x.redo(), STATE);
            for (int point = 0; point < 4; point++) {
                is(x.of(point, 1), 3);
            }
            is(x.count(8), 12);
        });
        on(34, "behind a thirteenth twelve are DONE AGAIN", () -> {
            ZeroForcer x = withChanges(13);
            for (int i = 0; i < 12; i++) {
                x.undo();
            }
            is(x.redo(), 11);
            is(x.of(1, 1), 1);
            for (int left = 10; left >= 0; left--) {
                is(x.redo(), left);
            }
            is(x.of(0, 1), 4);
        });
        on(34, "another CHANGE behind: none is left", () -> {
            ZeroForcer x = withChanges(12);
            x.undo();
            x.undo();
            x.kind(0, 1);
            is(x.count(9), 0);
            is(x.redo(), STATE);
            is(x.count(8), 11);
            is(x.undo(), 10);
            is(x.of(1, 1), 3);
        });
        on(34, "all twelve UNDONE, and another CHANGE: it is the only one", () -> {
            ZeroForcer x = withChanges(12);
            for (int i = 0; i < 12; i++) {
                x.undo();
            }
            x.kind(0, 1);
            is(x.count(8), 1);
            is(x.redo(), STATE);
            is(x.undo(), 0);
            is(x.of(0, 0), 0);
        });
        on(34, "what is refused drops none", () -> {
            ZeroForcer x = made("P0,3");
            x.undo();
            x.line(0, 0, 1);
            x.kind(0, 5);
            x.cost(0, 10);
            x.rule(5, 1);
            x.table(0, 0, 10);
            x.table(0, 3, 1);
            x.prime(12);
            x.points(10);
            x.back();
            say(x, "l0,9");
            say(x, "C0,1");
            say(x, "l0,3;");
            is(x.redo(), 0);
            is(x.of(3, 4), 4);
        });
        on(33, "undo() and redo() are no CHANGES themselves", () -> {
            ZeroForcer x = withChanges(2);
            x.undo();
            x.redo();
            x.undo();
            is(x.count(8), 1);
            is(x.count(9), 1);
        });
    }

    private static void whatLeavesNone() {
        on(33, "points() leaves none", () -> {
            ZeroForcer x = withChanges(12);
            x.points(4);
            is(x.undo(), STATE);
            is(x.count(8), 0);
        });
        on(34, "points() leaves none", () -> {
            ZeroForcer x = withChanges(12);
            x.undo();
            x.points(9);
            is(x.redo(), STATE);
            is(x.count(9), 0);
        });
        on(33, "n by read() leaves none but those behind it", () -> {
            ZeroForcer x = withChanges(12);
            say(x, "n4;k0,1");
            is(x.count(8), 1);
            is(x.undo(), 0);
            is(x.count(0), 4);
        });
        on(33, "n by read() that is refused leaves them", () -> {
            ZeroForcer x = withChanges(12);
            is(say(x, "n10"), -200);
            is(x.count(8), 12);
        });
        on(33, "back() leaves none", () -> {
            ZeroForcer x = withChanges(12);
            x.image();
            is(x.count(8), 12);
            x.back();
            is(x.undo(), STATE);
        });
        on(34, "back() leaves none", () -> {
            ZeroForcer x = withChanges(12);
            x.image();
            x.undo();
            x.back();
            is(x.redo(), STATE);
        });
        on(33, "back() that is refused leaves them", () -> {
            ZeroForcer x = withChanges(2);
            x.undo();
            is(x.back(), STATE);
            is(x.count(8), 1);
            is(x.count(9), 1);
        });
        on(34, "image() leaves them", () -> {
            ZeroForcer x = withChanges(2);
            x.undo();
            x.image();
            is(x.redo(), 0);
            is(x.undo(), 1);
        });
    }

    /** COSTS of POINTS 0 .. 3 in turn, each one more than it was. */
    private static ZeroForcer withChanges(int many) {
        ZeroForcer x = new ZeroForcer();
        for (int i = 0; i < many; i++) {
            x.cost(i % 4, 1 + i / 4);
        }
        return x;
    }

    // ---- rows

    private static void row() {
        on(38, "n 0: a ROW without a place", () -> {
            ZeroForcer x = new ZeroForcer();
            is(x.row(0, 0), 1);
            is(x.get(0, 0), VOID);
            is(x.judge(0), STATE);
        });
        on(38, "n 40: forty places, all 0", () -> {
            ZeroForcer x = new ZeroForcer();
            is(x.row(2, 40), 1);
            for (int i = 0; i < 40; i++) {
                is(x.get(2, i), 0);
            }
            is(x.get(2, 40), VOID);
        });
        on(38, "n 41 and the greatest int are BAD", () -> noRow(BAD, 41, MAX));
        on(38, "n -1: the ROW is missing", () -> {
            ZeroForcer x = new ZeroForcer();
            tell(x, 0, 7);
            is(x.row(0, -1), 1);
            is(x.get(0, 0), VOID);
            is(x.judge(0), MISSING);
            is(x.row(0, -1), 1);
        });
        on(38, "n -2 and the least int: -14", () -> noRow(TOO_SMALL, -2, MIN));
        on(38, "ROWS -1 and 3 are BAD, the least and the greatest int, too", () -> {
            int[] none = {-1, 3, MIN, MAX};
            for (int row : none) {
                is(new ZeroForcer().row(row, 0), BAD);
                is(new ZeroForcer().row(row, -1), BAD);
            }
        });
        on(38, "BAD ahead of -14", () -> {
            is(new ZeroForcer().row(3, -2), BAD);
            is(new ZeroForcer().row(-1, MIN), BAD);
        });
        on(38, "what it held is gone, with as many places and with more", () -> {
            ZeroForcer x = new ZeroForcer();
            tell(x, 0, 5, 6);
            x.row(0, 2);
            is(x.get(0, 1), 0);
            tell(x, 0, 5, 6, 7);
            x.row(0, 0);
            x.row(0, 40);
            is(x.get(0, 2), 0);
            x.film(0, 1, 39);
            x.row(0, -1);
            x.row(0, 40);
            is(x.get(0, 39), 0);
        });
        on(38, "each ROW is its own", () -> {
            ZeroForcer x = new ZeroForcer();
            for (int row = 0; row < 3; row++) {
                tell(x, row, row + 1);
            }
            x.row(1, -1);
            is(x.get(0, 0), 1);
            is(x.get(1, 0), VOID);
            is(x.get(2, 0), 3);
        });
    }

    private static void noRow(int refusal, int one, int other) {
        ZeroForcer x = new ZeroForcer();
        tell(x, 0, 7);
        is(x.row(0, one), refusal);
        is(x.row(0, other), refusal);
        is(x.row(1, one), refusal);
        is(x.get(0, 0), 7);
        is(x.get(0, 1), VOID);
        is(x.judge(1), MISSING);
    }

    private static void putAndGet() {
        on(39, "places 0 and 39 of forty are taken, -1 and 40 are -13", () -> {
            ZeroForcer x = new ZeroForcer();
            x.row(0, 40);
            is(x.put(0, 0, 5), 1);
            is(x.put(0, 39, 6), 1);
            is(x.put(0, -1, 7), OUTSIDE);
            is(x.put(0, 40, 7), OUTSIDE);
            is(x.get(0, 0), 5);
            is(x.get(0, 39), 6);
        });
        on(39, "places the least and the greatest int are -13", () -> {
            ZeroForcer x = new ZeroForcer();
            x.row(0, 40);
            is(x.put(0, MIN, 7), OUTSIDE);
            is(x.put(0, MAX, 7), OUTSIDE);
        });
        on(39, "one place: 0, and no other", () -> {
            ZeroForcer x = new ZeroForcer();
            x.row(0, 1);
            is(x.put(0, 0, 5), 1);
            is(x.put(0, 1, 5), OUTSIDE);
        });
        on(39, "no place: -13", () -> {
            ZeroForcer x = new ZeroForcer();
            x.row(0, 0);
            is(x.put(0, 0, 5), OUTSIDE);
        });
        on(39, "a missing ROW: -11, ahead of -13", () -> {
            ZeroForcer x = new ZeroForcer();
            is(x.put(0, 0, 5), MISSING);
            is(x.put(0, -1, 5), MISSING);
            is(x.put(2, 40, 5), MISSING);
            is(x.judge(0), MISSING);
        });
        on(39, "ROWS -1 and 3, the least and the greatest int are BAD, ahead of all", () -> {
            int[] none = {-1, 3, MIN, MAX};
            for (int row : none) {
                is(new ZeroForcer().put(row, 0, 5), BAD);
                is(new ZeroForcer().put(row, -1, 5), BAD);
            }
        });
        on(39, "any int may stand there, the least and the greatest", () -> {
            ZeroForcer x = new ZeroForcer();
            x.row(2, 3);
            is(x.put(2, 0, MIN), 1);
            is(x.put(2, 1, MAX), 1);
            is(x.put(2, 2, -1), 1);
            is(x.get(2, 0), MIN);
            is(x.get(2, 1), MAX);
            is(x.get(2, 2), -1);
        });
        on(40, "places 0 and 39 of forty, -1 and 40 are VOID", () -> {
            ZeroForcer x = new ZeroForcer();
            x.film(1, 3, 39);
            is(x.get(1, 0), 3);
            is(x.get(1, 39), 3);
            is(x.get(1, -1), VOID);
            is(x.get(1, 40), VOID);
        });
        on(40, "places the least and the greatest int are VOID", () -> {
            ZeroForcer x = new ZeroForcer();
            x.row(1, 40);
            is(x.get(1, MIN), VOID);
            is(x.get(1, MAX), VOID);
        });
        on(40, "a missing ROW and one without a place: VOID", () -> {
            ZeroForcer x = new ZeroForcer();
            x.row(1, 0);
            is(x.get(0, 0), VOID);
            is(x.get(1, 0), VOID);
        });
        on(40, "ROWS -1 and 3, the least and the greatest int are VOID", () -> {
            int[] none = {-1, 3, MIN, MAX};
            for (int row : none) {
                is(new ZeroForcer().get(row, 0), VOID);
            }
        });
    }

    private static void film() {
        on(41, "m 0: the set alone", () -> {
            ZeroForcer x = path(9);
            is(x.film(0, 1, 0), 1);
            is(x.get(0, 0), 1);
            is(x.get(0, 1), VOID);
        });
        on(41, "m 39: forty places, the last ones as where it rests", () -> {
            ZeroForcer x = path(9);
            is(x.film(2, 1, 39), 40);
            for (int i = 0; i < 40; i++) {
                is(x.get(2, i), i < 8 ? (2 << i) - 1 : 511);
            }
            is(x.get(2, 40), VOID);
        });
        on(41, "m -1 and 40 are BAD", () -> noFilm(0, 1, -1, 40));
        on(41, "m the least and the greatest int is BAD", () -> noFilm(0, 1, MIN, MAX));
        on(41, "the empty set and all POINTS are taken", () -> {
            int[] sizes = {1, 4, 9};
            for (int n : sizes) {
                ZeroForcer x = path(n);
                is(x.film(0, 0, 1), 2);
                is(x.get(0, 1), 0);
                is(x.film(0, (1 << n) - 1, 1), 2);
                is(x.get(0, 1), (1 << n) - 1);
                is(x.film(0, 1 << n, 1), BAD);
                is(x.get(0, 1), (1 << n) - 1);
            }
        });
        on(41, "sets -1, the least and the greatest int are BAD", () -> {
            noFilm(0, -1, 1, 1);
            noFilm(0, MIN, 1, 1);
            noFilm(0, MAX, 1, 1);
        });
        on(41, "ROWS -1 and 3, the least and the greatest int are BAD", () -> {
            noFilm(-1, 1, 1, 1);
            noFilm(3, 1, 1, 1);
            noFilm(MIN, 1, 1, 1);
            noFilm(MAX, 1, 1, 1);
        });
        on(41, "a missing ROW comes, a full one becomes shorter", () -> {
            ZeroForcer x = path(4);
            is(x.film(1, 1, 1), 2);
            is(x.get(1, 1), 3);
            x.row(1, 40);
            is(x.film(1, 1, 0), 1);
            is(x.get(1, 1), VOID);
            is(x.put(1, 1, 5), OUTSIDE);
        });
        on(41, "by each RULE, WIDE's first ROUND among them", () -> {
            int[] second = {1, 1, 15, 15, 1};
            for (int rule = 0; rule < 5; rule++) {
                ZeroForcer x = by(star(4), rule, 1);
                x.film(0, 1, 1);
                is(x.get(0, 1), second[rule]);
            }
            ZeroForcer y = by(made("n4;l0,1;l1,2;l1,3"), WIDE, 1);
            y.film(0, 1, 2);
            is(y.get(0, 1), 3);
            is(y.get(0, 2), 3);
        });
    }

    private static void noFilm(int row, int set, int m, int otherM) {
        ZeroForcer x = path(4);
        tell(x, 0, 7);
        is(x.film(row, set, m), BAD);
        is(x.film(row, set, otherM), BAD);
        is(x.get(0, 0), 7);
        is(x.get(0, 1), VOID);
        is(x.judge(1), MISSING);
    }

    public static void main(String[] args) {
        fits();
        judge();
        eachChange();
        manyChanges();
        whatLeavesNone();
        row();
        putAndGet();
        film();
        covers(31, 34);
        covers(38, 41);
        end();
    }
}
