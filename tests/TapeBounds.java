/** The boundaries of promises 35 to 37: THE TAPE and its TEXTS. */
public final class TapeBounds extends Bounds {
    private static final String LETTERS = "nmluPCkcr";

    private TapeBounds() {
    }

    private static ZeroForcer fed(int bytes) {
        ZeroForcer x = new ZeroForcer();
        for (int i = 0; i < bytes; i++) {
            x.feed('0');
        }
        return x;
    }

    private static void feedAndWipe() {
        on(35, "the least byte, 32, and the greatest, 126", () -> {
            ZeroForcer x = new ZeroForcer();
            is(x.feed(32), 1);
            is(x.feed(126), 2);
            is(x.count(10), 2);
        });
        on(35, "bytes 31 and 127 are BAD", () -> {
            ZeroForcer x = fed(3);
            is(x.feed(31), BAD);
            is(x.feed(127), BAD);
            is(x.count(10), 3);
        });
        on(35, "bytes -1, the least and the greatest int are BAD", () -> {
            ZeroForcer x = fed(3);
            is(x.feed(-1), BAD);
            is(x.feed(0), BAD);
            is(x.feed(MIN), BAD);
            is(x.feed(MAX), BAD);
            is(x.feed(256 + 'n'), BAD);
            is(x.count(10), 3);
        });
        on(35, "the eightieth byte is taken, the next one is FULL", () -> {
            ZeroForcer x = fed(79);
            is(x.feed('0'), 80);
            is(x.feed('0'), FULL);
            is(x.feed(32), FULL);
            is(x.feed(126), FULL);
            is(x.count(10), 80);
        });
        on(35, "BAD ahead of FULL", () -> {
            ZeroForcer x = fed(80);
            is(x.feed(31), BAD);
            is(x.feed(127), BAD);
            is(x.count(10), 80);
        });
        on(35, "FULL changes nothing of what THE TAPE has", () -> {
            ZeroForcer x = new ZeroForcer();
            feed(x, "n9;".repeat(26) + "n8");
            is(x.feed('7'), FULL);
            is(x.read(), 27);
            is(x.count(0), 8);
        });
        on(35, "a byte that is taken may be no TEXT's", () -> {
            ZeroForcer x = new ZeroForcer();
            is(x.feed('~'), 1);
            is(x.read(), -100);
        });
        on(36, "THE TAPE is empty: 0", () -> {
            is(new ZeroForcer().wipe(), 0);
            ZeroForcer x = fed(1);
            is(x.wipe(), 1);
            is(x.wipe(), 0);
        });
        on(36, "THE TAPE is full: 80", () -> {
            ZeroForcer x = fed(80);
            is(x.wipe(), 80);
            is(x.count(10), 0);
            is(x.feed('n'), 1);
        });
        on(36, "nothing of it is left for read()", () -> {
            ZeroForcer x = new ZeroForcer();
            feed(x, "n9;n8");
            x.wipe();
            is(say(x, "n7"), 1);
            is(x.count(0), 7);
        });
    }

    /** What a new object answers to a text; by a FAULT nothing but THE TAPE may be changed. */
    private static void faultAt(String text, int fault) {
        ZeroForcer x = new ZeroForcer();
        is(say(x, text), -100 - fault);
        counts(x, 4, 0, 0, 1, 11, 0, 0, 4, 0, 0, 0);
    }

    private static void faults() {
        on(37, "the empty TAPE ends too early", () -> faultAt("", 0));
        on(37, "a letter that is none", () -> {
            for (char letter = 32; letter < 127; letter++) {
                if (LETTERS.indexOf(letter) < 0) {
                    faultAt(letter + "1,2", 0);
                }
            }
        });
        on(37, "each letter alone ends too early", () -> {
            for (char letter : LETTERS.toCharArray()) {
                faultAt("" + letter, 1);
            }
        });
        on(37, "no number behind a letter", () -> {
            for (char letter : LETTERS.toCharArray()) {
                faultAt(letter + ",1", 1);
                faultAt(letter + ";n1", 1);
                faultAt(letter + "-1", 1);
                faultAt(letter + " 1", 1);
                faultAt(letter + "/1", 1);
                faultAt(letter + ":1", 1);
            }
        });
        on(37, "a third figure", () -> {
            faultAt("n123", 3);
            faultAt("m011", 3);
            for (char letter : "luPCkcr".toCharArray()) {
                faultAt(letter + "001,2", 3);
                faultAt(letter + "1,002", 5);
                faultAt(letter + "00,002", 6);
            }
        });
        on(37, "n and m have no second number", () -> {
            faultAt("n4,1", 2);
            faultAt("m11,1", 3);
            faultAt("n4,", 2);
        });
        on(37, "the others have one: too early, or another byte", () -> {
            for (char letter : "luPCkcr".toCharArray()) {
                faultAt(letter + "1", 2);
                faultAt(letter + "01", 3);
                faultAt(letter + "1,", 3);
                faultAt(letter + "01,", 4);
                faultAt(letter + "1;n4", 2);
                faultAt(letter + "1,;", 3);
                faultAt(letter + "1,,2", 3);
                faultAt(letter + "1.2", 2);
                faultAt(letter + "1,2,3", 4);
            }
        });
        on(37, "a ; asks for another ACT", () -> {
            faultAt("n4;", 3);
            faultAt("l0,1;", 5);
            faultAt(";", 0);
            faultAt(";n4", 0);
            faultAt("n4;;n4", 3);
            faultAt("n4;4", 3);
        });
        on(37, "ACTS are parted by ; alone", () -> {
            faultAt("n4n4", 2);
            faultAt("l0,1l1,2", 4);
            faultAt("n4:n4", 2);
            faultAt("n4<n4", 2);
        });
        on(37, "no blanks: ahead, within, behind", () -> {
            faultAt(" n4", 0);
            faultAt("n 4", 1);
            faultAt("n4 ", 2);
            faultAt("n4; n4", 3);
            faultAt("l0, 1", 3);
            faultAt("l0 ,1", 2);
        });
        on(37, "the FAULT comes ahead of any ACT, and of any that is refused", () -> {
            faultAt("l0,1;k0,4;x", 10);
            faultAt("n0;n99;n4;", 10);
            faultAt("l9,9;l", 6);
        });
        on(37, "eighty bytes: the FAULT at the last one, and too early behind it", () -> {
            faultAt("n9;".repeat(26) + "nn", 79);
            faultAt("n9;".repeat(26) + "n;", 79);
            faultAt("n9;".repeat(26) + "l9", 80);
            faultAt("n01;".repeat(20), 80);
        });
    }

    /** A text whose last ACT is refused behind some that are done. */
    private static void refusedBehind(int ahead, String text) {
        ZeroForcer x = new ZeroForcer();
        is(say(x, text), -200 - ahead);
        is(x.count(10), 0);
    }

    /** Each of these ACTS is refused by four POINTS and no LINES, and does nothing. */
    private static void refuses(String... acts) {
        for (String act : acts) {
            ZeroForcer x = new ZeroForcer();
            is(say(x, act), -200);
            counts(x, 4, 0, 0, 1, 11, 0, 0, 4, 0, 0, 0);
        }
    }

    private static void does(String... acts) {
        for (String act : acts) {
            is(say(new ZeroForcer(), act), 1);
        }
    }

    private static void refusals() {
        on(37, "n: 1 and 9 are done, 0 and 10 and 99 are refused", () -> {
            does("n1", "n9", "n01", "n09");
            refuses("n0", "n00", "n10", "n99");
        });
        on(37, "m: 11 and 31 are done, 0, 10, 12, 32 and 99 are refused", () -> {
            does("m11", "m31");
            refuses("m0", "m1", "m10", "m12", "m30", "m32", "m37", "m99");
        });
        on(37, "l and u: the last POINT is taken, the next one is refused, and a with itself", () -> {
            does("l0,3", "l3,0", "l00,03", "u0,3", "u3,0");
            refuses("l0,4", "l4,0", "l0,99", "l99,0", "l0,0", "l3,3", "u0,4", "u4,0", "u2,2");
        });
        on(37, "k: KIND 4 and POINT 3 are taken, 5 and 4 are refused", () -> {
            does("k0,0", "k3,4", "k03,04");
            refuses("k0,5", "k4,0", "k0,99", "k99,0");
        });
        on(37, "c: COST 9 and POINT 3 are taken, 10 and 4 are refused", () -> {
            does("c0,0", "c3,9", "c03,09");
            refuses("c0,10", "c4,0", "c0,99", "c99,0");
        });
        on(37, "r: RULE 4, K 1 and 4 are taken, 5, 0 and 5 are refused", () -> {
            does("r0,1", "r4,4", "r04,04");
            refuses("r5,1", "r0,0", "r0,5", "r99,1", "r4,99");
        });
        on(37, "P: b one above a is done, b not above a is refused", () -> {
            does("P0,1", "P2,3", "P0,3", "P00,03");
            refuses("P0,0", "P1,0", "P3,3", "P3,0");
        });
        on(37, "P: the last POINT is taken, the next one is refused and does nothing", () -> {
            refuses("P0,4", "P3,4", "P4,5", "P0,99", "P98,99", "P4,4");
        });
        on(37, "C: b two above a is done, one above a is refused", () -> {
            does("C0,2", "C1,3", "C0,3", "C00,02");
            refuses("C0,1", "C2,3", "C0,0", "C2,1", "C3,0");
        });
        on(37, "C: the last POINT is taken, the next one is refused and does nothing", () -> {
            refuses("C0,4", "C2,4", "C3,5", "C0,99", "C97,99", "C4,4");
        });
        on(37, "those ahead are done, those behind are not", () -> {
            ZeroForcer x = new ZeroForcer();
            is(say(x, "l0,1;k2,3;c3,10;r1,1;l2,3"), -202);
            counts(x, 4, 1, 0, 1, 11, 0, 1, 3, 2, 0, 0);
            is(x.of(2, 0), 3);
            is(x.of(2, 4), 0);
        });
        on(37, "an ACT is looked at behind those ahead of it", () -> {
            is(say(new ZeroForcer(), "n9;P0,8;k8,4"), 3);
            refusedBehind(1, "n1;l0,1");
            refusedBehind(2, "n2;P0,1;P1,2");
        });
        on(37, "one ACT, and as many as there can be: twenty-seven", () -> {
            is(say(new ZeroForcer(), "n9"), 1);
            is(say(new ZeroForcer(), "n9;".repeat(26) + "n1"), 27);
            refusedBehind(26, "n9;".repeat(26) + "n0");
            refusedBehind(0, "n0;" + "n9;".repeat(25) + "n1");
        });
    }

    private static void acts() {
        on(37, "P of nine POINTS has eight LINES, C nine", () -> {
            ZeroForcer x = made("n9;P0,8");
            is(x.count(1), 8);
            is(x.of(0, 4), 2);
            is(x.of(8, 4), 128);
            ZeroForcer y = made("n9;C0,8");
            is(y.count(1), 9);
            is(y.of(0, 4), 258);
            is(y.of(8, 4), 129);
        });
        on(37, "the least P has one LINE, the least C three", () -> {
            ZeroForcer x = made("P2,3");
            is(x.count(1), 1);
            is(x.of(2, 4), 8);
            ZeroForcer y = made("C1,3");
            is(y.count(1), 3);
            is(y.of(1, 4), 12);
            is(y.of(2, 4), 10);
        });
        on(37, "P and C leave a LINE's number that is there", () -> {
            ZeroForcer x = made("l1,2");
            x.table(1, 2, -9);
            is(say(x, "C0,3"), 1);
            is(x.entry(1, 2), -9);
            is(x.entry(0, 1), 1);
            is(x.entry(3, 0), 1);
            is(x.count(8), 5);
        });
        on(37, "n is as points(): what stays, stays", () -> {
            ZeroForcer x = made("r4,4;m31;P0,3;k0,1");
            is(say(x, "n9"), 1);
            counts(x, 9, 0, 4, 4, 31, 0, 0, 9, 0, 0, 0);
            is(x.of(0, 0), 0);
        });
        on(37, "two figures with a 0 ahead are as one", () -> {
            ZeroForcer x = made("n09;l00,08;k08,04;c08,09;r04,03");
            counts(x, 9, 1, 4, 3);
            is(x.of(0, 4), 256);
            is(x.of(8, 0), 4);
            is(x.of(8, 1), 9);
        });
    }

    private static void emptyBehind() {
        on(37, "THE TAPE is empty behind a TEXT", () -> emptyBehind("n9;n4"));
        on(37, "THE TAPE is empty behind a FAULT", () -> {
            emptyBehind("n9;x");
            emptyBehind("x");
            emptyBehind("n");
            emptyBehind("n9;".repeat(26) + "l9");
        });
        on(37, "THE TAPE is empty behind an ACT that is refused, its rest, too", () -> {
            emptyBehind("n0");
            emptyBehind("n9;n0;n9;n9");
        });
    }

    private static void emptyBehind(String text) {
        ZeroForcer x = new ZeroForcer();
        say(x, text);
        is(x.count(10), 0);
        is(x.read(), -100);
        is(x.feed('n'), 1);
        is(x.feed('7'), 2);
        is(x.read(), 1);
        is(x.count(0), 7);
    }

    public static void main(String[] args) {
        feedAndWipe();
        faults();
        refusals();
        acts();
        emptyBehind();
        covers(35, 37);
        end();
    }
}
