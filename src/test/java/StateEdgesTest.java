/** The sentences on the SEED, ACTS, THE IMAGE and status that name an edge: promises 43 to 48. */
public final class StateEdgesTest {
    private StateEdgesTest() {
    }

    public static void main(String[] args) {
        seed();
        bodies();
        bodiesWrap();
        theTrace();
        act();
        trace();
        image();
        imageOfAll();
        restore();
        restoreAll();
        restoreAndShelves();
        status();
        refusalsCounted();
        Due.end("StateEdgesTest");
    }

    private static void seed() {
        Due.sentence(43, "SEED becomes v: what it was (nothing is refused).");
        Calls x = Calls.fresh().calls("seed(MAX) = 1 seed(MIN) = 2147483647 seed(0) = -2147483648"
            + " seed(-1) = 0 status(5) = -1 seed(1) = -1 status(5) = 1");
        for (int r = 11; r <= 17; r++) {
            x.calls("status(" + r + ") = 0");
        }
    }

    private static final String ACTS = "ACTS of STRETCHES, with x (wrapping): 0 hums, 1 lasts, 2 "
        + "wears; m its number, k its SPACE. BODIES, each with its number: GROOVE: 10 hums: x + m. "
        + "11 lasts: hums(x) * 2. 12 wears: lasts(x) ^ hums(x - k). EVEN: 20 hums: super.hums(x) + "
        + "k. PAIR: 30 lasts: super.lasts(x) * 3. SLANT: 40 lasts: super.lasts(x + 1). 41 hums: "
        + "super.hums(x) - m. DEEP: 50 wears: -super.wears(x). REST: 60 wears: super.wears(x) ^ 5. "
        + "TOLD: 70 hums: super.hums(x) * 2. 71 wears: super.wears(x - k). hums(..) and so on: the "
        + "body of the STRETCH's KIND, or of the next KIND above that has one; super: from the KIND "
        + "above the body's on.";

    private static int hums(int kind, int m, int k, int x) {
        switch (kind) {
            case 0: case 3: return x + m;
            case 1: case 2: case 4: return x + m + k;
            case 5: return x + m + k - m;
            default: return (x + m) * 2;
        }
    }

    private static int lasts(int kind, int m, int k, int x) {
        switch (kind) {
            case 2: return hums(kind, m, k, x) * 2 * 3;
            case 5: return hums(kind, m, k, x + 1) * 2 * 3;
            default: return hums(kind, m, k, x) * 2;
        }
    }

    private static int wears(int kind, int m, int k, int x) {
        int from = kind == 6 ? x - k : x;
        int groove = lasts(kind, m, k, from) ^ hums(kind, m, k, from - k);
        return kind == 4 ? -groove : kind == 3 ? groove ^ 5 : groove;
    }

    private static void actsOf(Calls x, int m, int kind, int k, int with) {
        x.calls("act(" + m + ", 0, " + with + ") = " + hums(kind, m, k, with)
            + " act(" + m + ", 1, " + with + ") = " + lasts(kind, m, k, with)
            + " act(" + m + ", 2, " + with + ") = " + wears(kind, m, k, with));
    }

    private static void bodies() {
        Due.sentence(0, ACTS);
        Calls x = Calls.fresh();
        for (int m = 0; m < 16; m++) {
            int k = m % 2 == 0 ? 60 : 1;
            x.calls("stretch(" + m % 7 + ", " + k + ", 33, 44)");
            actsOf(x, m, m % 7, k, 0);
            actsOf(x, m, m % 7, k, -1);
            actsOf(x, m, m % 7, k, 1000);
        }
    }

    private static void bodiesWrap() {
        Due.sentence(0, ACTS);
        for (int m = 0; m < 14; m += 1) {
            Calls x = Calls.fresh();
            for (int i = 0; i < m; i++) {
                x.calls("stretch(0, 9, 9, 9)");
            }
            x.calls("stretch(" + m % 7 + ", 7, 9, 9)");
            int[] edges = {Integer.MAX_VALUE, Integer.MIN_VALUE, Integer.MAX_VALUE / 2,
                Integer.MAX_VALUE / 2 + 1, Integer.MIN_VALUE / 2, Integer.MAX_VALUE - m,
                Integer.MIN_VALUE + 6, Integer.MAX_VALUE / 6, Integer.MAX_VALUE / 6 + 1};
            for (int edge : edges) {
                actsOf(x, m, m % 7, 7, edge);
            }
        }
        Calls.fresh().calls("stretch(0, 7, 0, 1) stretch(0, 7, 0, 1) act(0, 0, MAX) = 2147483647"
            + " act(1, 0, MAX) = -2147483648 act(0, 1, 1073741823) = 2147483646"
            + " act(0, 1, 1073741824) = -2147483648 act(1, 0, MIN) = -2147483647");
    }

    private static void traced(int kind, int act, int... due) {
        Calls x = Calls.fresh().calls("stretch(" + kind + ", 9, 4, 3) act(0, " + act + ", 5)"
            + " status(6) = " + due.length + " trace(-1) = -1 trace(" + due.length + ") = -1"
            + " trace(19) = -1 trace(20) = -1");
        for (int i = 0; i < due.length; i++) {
            x.calls("trace(" + i + ") = " + due[i]);
        }
    }

    private static void theTrace() {
        Due.sentence(0, "THE TRACE: the numbers of the bodies that ran in the latest act(), in the "
            + "order in which they began; the first 20 are kept.");
        traced(0, 0, 10);
        traced(0, 1, 11, 10);
        traced(0, 2, 12, 11, 10, 10);
        traced(1, 2, 12, 11, 20, 10, 20, 10);
        traced(2, 2, 12, 30, 11, 20, 10, 20, 10);
        traced(3, 2, 60, 12, 11, 10, 10);
        traced(4, 2, 50, 12, 11, 20, 10, 20, 10);
        traced(5, 0, 41, 20, 10);
        traced(5, 1, 40, 30, 11, 41, 20, 10);
        // the longest that there is
        traced(5, 2, 12, 40, 30, 11, 41, 20, 10, 41, 20, 10);
        traced(6, 2, 71, 12, 11, 70, 10, 70, 10);
    }

    private static void act() {
        Due.sentence(44, "An ACT of a STRETCH with x. 0, and no TRACE then: no such STRETCH, act.");
        String none = " status(6) = 0 trace(0) = -1 act(5, 2, 1) status(6) = 10 trace(0) = 12 ";
        Calls x = Calls.full().calls("act(-1, 0, 5) = 0" + none + "act(16, 0, 5) = 0" + none
            + "act(0, -1, 5) = 0" + none + "act(0, 3, 5) = 0" + none + "act(MAX, MIN, 5) = 0" + none
            + "act(0, 0, 5) = 5 trace(0) = 10 trace(1) = -1 status(6) = 1 act(15, 0, 5) = 36"
            + " act(15, 2, 5) status(6) = 6 till(15) act(15, 0, 5) = 0 status(6) = 0 till(0)"
            + " act(0, 0, 5) = 0 act(0, 2, 5) = 0");
        for (int r = 11; r <= 17; r++) {
            x.calls("status(" + r + ") = 0");
        }
    }

    private static void trace() {
        Due.sentence(45, "THE TRACE's i-th body. NONE: none such.");
        Calls.full().calls("trace(0) = -1 act(5, 2, 1) trace(-1) = -1 trace(0) = 12 trace(9) = 10"
            + " trace(10) = -1 trace(19) = -1 trace(20) = -1 trace(MAX) = -1 trace(MIN) = -1"
            + " act(0, 0, 1) trace(0) = 10 trace(1) = -1 trace(9) = -1 till(0) trace(0) = 10"
            + " status(6) = 1 status(15) = 0");
    }

    private static void image() {
        Due.sentence(46, "THE IMAGE of all but SHELVES (and THE IMAGE, REFUSALS, the FAULT, THE "
            + "TRACE) is taken: how many STRETCHES.");
        Calls.fresh().calls("image() = 0 stretch(0, 5, 0, 1) restore() = 0 status(0) = 0");
        Calls.full().calls("image() = 16 till(0) image() = 0 restore() = 0 status(1) = 6");
        Calls.full().calls("image() = 16 till(15) restore() = 16 status(0) = 16 stretchOf(15, 1) = 16"
            + " till(1) image() = 1 till(0) restore() = 1 status(0) = 1");
    }

    private static void imageOfAll() {
        Due.sentence(46, "THE IMAGE of all but SHELVES (and THE IMAGE, REFUSALS, the FAULT, THE "
            + "TRACE) is taken: how many STRETCHES.");
        // what is behind an image() stays behind it till the next restore()
        Calls.fresh().tune(440, 2).calls("stretch(2, 9, 4, 3) car(40, 120, 60) ask(0, 500) ask(1, 5)"
            + " ask(2, 100) ask(3, 300) seed(77) image() = 1 till(0) stretch(1, 8, 0, 20)"
            + " stretch(1, 8, 0, 20) car(1, 1, 1) ask(0, 9) ask(1, 9) ask(2, 9) ask(3, 99) seed(9)")
            .letters(0, "note 7 7").calls("book(0) = 1 noteOf(0, -1, 0) = 2 row(1, 3, 2)"
                + " set(1, 1, 5) hum(9, 9) = -1 act(0, 1, 1)").letters(0, "nox")
            .calls("book(0) = -6 restore() = 1 status(0) = 1 status(1) = 1 status(2) = 1"
                + " status(3) = 39 status(4) = 60 status(5) = 77 stretchOf(0, 0) = 2"
                + " stretchOf(0, 1) = 9 stretchOf(0, 2) = 4 stretchOf(0, 3) = 3 carOf(0, 0) = 40"
                + " carOf(0, 1) = 120 carOf(0, 2) = 60 noteOf(0, -1, 0) = 1 noteOf(0, 0, 0) = 440"
                + " noteOf(0, 0, 1) = 2 ask(0, 1) = 500 ask(1, 2) = 5 ask(2, 3) = 100"
                + " ask(3, 50) = 300 element(1, 1) = 5 holds(0) = 100 status(11) = 1"
                + " status(16) = 1 fault() = 2 status(6) = 3 trace(0) = 11");
    }

    private static void restore() {
        Due.sentence(47, "All is as THE IMAGE has it; SHELVES with STRETCHES hold those of these "
            + "numbers, or NOTHING: how many STRETCHES.");
        Calls.fresh().calls("restore() = -6 image() = 0 restore() = 0 restore() = 0 status(16) = 1");
        Calls.full().calls("restore() = -6 image() = 16 restore() = 16 till(0) restore() = 16"
            + " till(0) seed(5) restore() = 16 status(5) = 1 status(0) = 16 status(16) = 1");
        // what is restored is not THE IMAGE itself
        Calls.fresh().tune(440, 2).calls("stretch(2, 9, 4, 3) image() restore() = 1 till(0)"
            + " stretch(1, 8, 0, 20) ask(0, 9) seed(3)").letters(0, "note 7 7").calls("book(0) = 1"
                + " restore() = 1 stretchOf(0, 1) = 9 ask(0, 9) = 2000 status(5) = 1"
                + " noteOf(0, -1, 0) = 1");
    }

    private static void restoreAll() {
        Due.sentence(47, "All is as THE IMAGE has it;");
        Calls.full().calls("ask(0, 9999) ask(1, 30) ask(2, 500) ask(3, 2000) image() = 16 ask(0, 1)"
            + " ask(1, 2) ask(2, 0) ask(3, 50) restore() = 16 ask(0, 1) = 9999 ask(1, 2) = 30"
            + " ask(2, 0) = 500 ask(3, 50) = 2000 stretch(0, 1, 0, 1) = -7 car(1, 0, 0) = -7"
            + " tune(0, 0) = -7 carOf(5, 0) = 6 noteOf(5, -1, 0) = 12");
        Calls.fresh().calls("image() = 0 stretch(0, 5, 0, 1) car(1, 1, 1)").tune(704, 1)
            .calls("restore() = 0 status(0) = 0 status(1) = 0 status(2) = 0 carOf(0, 0) = -5"
                + " noteOf(0, -1, 0) = -5 stretchOf(0, 0) = -5 stretch(1, 6, 0, 1) = 0"
                + " car(2, 2, 2) = 0").tune().calls("noteOf(0, -1, 0) = 0 noteOf(1, -1, 0) = -5");
    }

    private static void restoreAndShelves() {
        Due.sentence(47, "SHELVES with STRETCHES hold those of these numbers, or NOTHING:");
        Calls.fresh().calls("stretch(2, 9, 4, 3) stretch(1, 8, 0, 2) image() = 2 till(0)"
            + " stretch(6, 7, 7, 7) stretch(6, 7, 7, 7) stretch(6, 7, 7, 7) show(0, 0) show(1, 1)"
            + " show(2, 2) row(3, 0, 3) restore() = 2 holds(0) = 0 says(0, 2) = 13 says(0, 6) = -2"
            + " holds(1) = 1 says(1, 1) = 8 holds(2) = -1 says(2, 0) = -3 holds(3) = 100"
            + " holds(4) = -1 till(1) holds(1) = -1 restore() = 2 holds(1) = -1 holds(0) = 0");
        Calls.full().calls("show(7, 15) show(6, 14) image() = 16 restore() = 16 holds(7) = 15"
            + " holds(6) = 14 till(15) image() = 15 stretch(0, 5, 0, 1) = 15 show(7, 15)"
            + " restore() = 15 holds(7) = -1 holds(6) = 14");
    }

    private static void status() {
        Due.sentence(48, "How many: 0 STRETCHES, 1 CARS, 2 TUNES, 3 LENGTHS together, 4 SHARES "
            + "together, 5 SEED, 6 bodies that ran in the latest act() (all, kept or not); 11 to 17: "
            + "REFUSALS -1 to -7. NONE for another what.");
        Calls x = Calls.full().calls("status(0) = 16 status(1) = 6 status(2) = 6 status(4) = 100"
            + " status(5) = 1 status(6) = 0 act(5, 2, 1) status(6) = 10 act(0, 0, 0) status(6) = 1"
            + " seed(MIN) status(5) = -2147483648 status(3) = 266 till(1) status(0) = 1 status(3) = 2"
            + " till(0) status(0) = 0 status(3) = 0 status(-1) = -1 status(7) = -1 status(8) = -1"
            + " status(9) = -1 status(10) = -1 status(18) = -1 status(MAX) = -1 status(MIN) = -1");
        for (int r = 11; r <= 17; r++) {
            x.calls("status(" + r + ") = 0");
        }
        Calls y = Calls.fresh();
        for (int i = 0; i < 16; i++) {
            y.calls("stretch(2, 60, 60, 60)");
        }
        y.calls("status(3) = 115200");
    }

    private static void refusalsCounted() {
        Due.sentence(48, "11 to 17: REFUSALS -1 to -7.");
        String[] refused = {"best(9)", "says(0, 0)", "says(7, 0)", "tune(0, -1)", "carOf(9, 0)",
            "off(-1, 0)", "row(0, 0, 161)"};
        for (int i = 0; i < 7; i++) {
            Calls x = Calls.fresh().calls("row(0, 2, 1)");
            for (int n = 1; n <= 60; n++) {
                x.calls(refused[i] + " = " + (-1 - i) + " status(" + (11 + i) + ") = " + n);
            }
            for (int other = 0; other < 7; other++) {
                x.calls("status(" + (11 + other) + ") = " + (other == i ? 60 : 0));
            }
        }
        Calls.fresh().calls("scale(0, 1, 1) = -11 status(11) = 1 stretch(0, 5, 0, 1)"
            + " scale(0, 1, 0) = -16 status(16) = 1 warns(-1) = -16 status(16) = 2 status(11) = 1");
    }
}
