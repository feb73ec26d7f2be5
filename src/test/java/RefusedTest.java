/**
 * Each refused call of promises 2 to 47: its answer, the first refusal that fits where several do,
 * and that nothing changes but how many REFUSALS there were.
 */
public final class RefusedTest {
    private RefusedTest() {
    }

    public static void main(String[] args) {
        refusals();
        rows();
        copies();
        shown();
        stretchesMade();
        stretchesOfRows();
        stretchesLeft();
        cars();
        tunes();
        notesAndAsked();
        books();
        heard();
        cuts();
        made();
        kept();
        nothingRefused();
        Due.end("RefusedTest");
    }

    private static void refusals() {
        Due.sentence(0, "REFUSALS (the call answers the number; nothing changes but how many there "
            + "were; the first that fits, in this order):");
        Calls.filled().refused(-1, "copy(8, 4, -1, -1, -1)").refused(-2, "copy(0, 4, -1, -1, -1)")
            .refused(-3, "copy(0, 7, -1, -1, -1)").refused(-4, "copy(0, 0, -1, -1, -1)")
            .refused(-5, "copy(0, 0, -1, -1, 1)").refused(-6, "row(0, 4, 161)")
            .refused(-7, "row(0, 3, 161)");
        Due.sentence(0, "-1 NOBODY: no such SHELF, STRETCH, CAR, TUNE, note, KIND.");
        Calls.filled().refused(-1, "book(8) hum(4, 1) read(3) best(3) note(0, 0, 3) cut(0, 3, 1, 0)"
            + " stretch(7, 1, 0, 1) says(4, 7)");
        Due.sentence(0, "-2 OTHER: a SHELF that holds a STRETCH where a ROW is wanted, or the other "
            + "way about, ROWS of two SORTS, a STRETCH that isn't of the KIND wanted, or one under "
            + "it.");
        Calls.filled().refused(-2, "book(4) says(0, 0) copy(0, 1, 0, 0, 1) says(4, 5)")
            .calls("says(4, 0) = 39 says(4, 1) = 9 says(4, 2) = 13");
        Due.sentence(0, "-3 NOTHING: a SHELF that holds NOTHING.");
        Calls.filled().refused(-3, "set(7, 0, 0) copy(7, 0, 0, 0, 0) copy(0, 7, 0, 0, 0) says(7, 0)"
            + " stretches(7, 0, 0) tune(7, 0) book(7)");
        Due.sentence(0, "-4 BELOW: a size below 0.");
        Calls.filled().refused(-4, "row(0, 0, -1) copy(0, 0, 0, 0, -1) stretches(0, 0, -1)"
            + " tune(0, -1)").calls("copy(0, 0, 0, 0, 0) = 1 stretches(0, 0, 0) = 0 row(0, 0, 0) = 1");
        Due.sentence(0, "-5 BEYOND: an element that isn't there; nothing such to be told of.");
        Calls.filled().refused(-5, "set(0, 6, 0) stretchOf(4, 0) carOf(0, 3) hears(0, 0, 3)");
        Due.sentence(0, "-6 WRONG: a number that may not be, a FAULT, what can't be as things "
            + "stand.");
        Calls.filled().refused(-6, "hum(0, 100) two(0, 1, 1, 1) book(6)");
        Calls.fresh().refused(-6, "restore()");
        Due.sentence(0, "-7 ROOM: more than may be.");
        Calls.full().refused(-7, "row(1, 0, 161) stretch(0, 1, 0, 1) car(1, 0, 0) tune(0, 1)");
    }

    private static void rows() {
        Due.sentence(2, "-1; -4; -6 SORT; -7 n above 160.");
        Calls.filled().refused(-1, "row(-1, 0, 0) row(8, 0, 0) row(8, 4, -1) row(MIN, 0, 0)"
            + " row(MAX, 4, 161)").refused(-4, "row(0, 0, -1) row(4, 4, -1) row(7, -1, MIN)")
            .refused(-6, "row(0, -1, 0) row(0, 4, 0) row(7, 4, 161) row(4, MIN, 1) row(0, MAX, 1)")
            .refused(-7, "row(0, 0, 161) row(7, 3, 161) row(4, 1, MAX)");
        Due.sentence(3, "-1; -2; -3; -5.");
        Calls.filled().refused(-1, "set(-1, 0, 1) set(8, -1, 1)")
            .refused(-2, "set(4, 0, 1) set(5, -1, 1)").refused(-3, "set(7, 0, 1) set(7, -1, 1)")
            .refused(-5, "set(0, -1, 1) set(0, 6, 1) set(1, 3, 1) set(3, 160, 1) set(3, MAX, 1)"
                + " set(3, MIN, 1)");
        Calls.fresh().calls("row(0, 0, 0)").refused(-5, "set(0, 0, 1)");
    }

    private static void copies() {
        Due.sentence(4, "-1; -2 also of two SORTS (when both hold something); -3 either; -4 n; -5 i "
            + "or j below 0, or an end that isn't there.");
        Calls.filled().refused(-1, "copy(-1, 0, 0, 0, 1) copy(8, 0, 0, 0, 1) copy(0, -1, 0, 0, 1)"
            + " copy(0, 8, 0, 0, 1) copy(4, 8, 0, 0, -1) copy(8, 7, 0, 0, 0)")
            .refused(-2, "copy(4, 0, 0, 0, 1) copy(0, 5, 0, 0, 1) copy(4, 5, 0, 0, 1)"
                + " copy(4, 7, 0, 0, 1) copy(7, 4, 0, 0, 1) copy(0, 1, 0, 0, 1)"
                + " copy(1, 2, 9, 9, -1) copy(3, 0, 0, 0, 0)")
            .refused(-3, "copy(7, 0, 0, 0, 1) copy(0, 7, 0, 0, 1) copy(7, 7, 0, 0, 0)"
                + " copy(7, 1, -1, -1, -1)")
            .refused(-4, "copy(0, 0, 0, 0, -1) copy(0, 0, -1, 7, -1) copy(3, 3, 0, 0, MIN)")
            .refused(-5, "copy(0, 0, -1, 0, 1) copy(0, 0, 0, -1, 1) copy(0, 0, -1, 0, 0)"
                + " copy(0, 0, 0, -1, 0) copy(0, 0, 0, 0, 7) copy(0, 0, 1, 0, 6)"
                + " copy(0, 0, 0, 1, 6) copy(0, 0, 7, 0, 0) copy(0, 0, 0, 7, 0)"
                + " copy(0, 0, MAX, 0, 1) copy(0, 0, 0, MAX, 1) copy(0, 0, 1, 1, MAX)"
                + " copy(0, 0, MIN, 0, 1)");
        Calls.filled().calls("row(1, 2, 2)").refused(-5, "copy(0, 1, 0, 0, 3) copy(1, 0, 0, 0, 3)"
            + " copy(0, 1, 0, 1, 2) copy(1, 0, 1, 0, 2)");
    }

    private static void shown() {
        Due.sentence(6, "-1.");
        Calls.filled().refused(-1, "show(-1, 0) show(8, 0) show(-1, -1) show(8, -1) show(0, 4)"
            + " show(7, -2) show(4, 4) show(5, MIN) show(4, MAX)");
        Calls.fresh().refused(-1, "show(0, 0)");
        Due.sentence(8, "-1 SHELF, KIND; -2 also a STRETCH of another KIND; -3.");
        Calls.filled().refused(-1, "says(-1, 0) says(8, 0) says(4, -1) says(4, 7) says(0, 7)"
            + " says(7, -1)").refused(-2, "says(0, 0) says(6, 6) says(4, 3) says(4, 4) says(4, 5)"
            + " says(4, 6) says(5, 1) says(5, 2) says(5, 4) says(5, 5) says(5, 6)")
            .refused(-3, "says(7, 0) says(7, 6)");
    }

    private static void stretchesMade() {
        Due.sentence(9, "-1 KIND; -6; -7.");
        Calls.filled().refused(-1, "stretch(-1, 1, 0, 1) stretch(7, 1, 0, 1) stretch(7, 0, -1, 0)"
            + " stretch(MIN, 1, 0, 1)").refused(-6, "stretch(0, 0, 0, 1) stretch(1, 61, 0, 1)"
            + " stretch(2, 1, -1, 1) stretch(3, 1, 61, 1) stretch(4, 1, 0, 0)"
            + " stretch(5, 1, 0, 61) stretch(6, MIN, 0, 1) stretch(6, 1, MAX, 1)"
            + " stretch(6, 1, 0, MAX)");
        Calls.full().refused(-1, "stretch(7, 0, 0, 0) stretch(7, 1, 0, 1)")
            .refused(-6, "stretch(0, 0, 0, 1) stretch(0, 1, 61, 1) stretch(0, 1, 0, 61)")
            .refused(-7, "stretch(0, 1, 0, 1) stretch(6, 60, 60, 60)");
    }

    private static void stretchesOfRows() {
        Due.sentence(10, "-1; -2; -3; -4 n; -5; -6 n is no multiple of four.");
        Calls.filled().refused(-1, "stretches(-1, 0, 4) stretches(8, -1, -1)")
            .refused(-2, "stretches(4, 0, 4) stretches(4, -1, -1)")
            .refused(-3, "stretches(7, 0, 4) stretches(7, -1, -1)")
            .refused(-4, "stretches(0, 0, -1) stretches(0, 0, -4) stretches(0, -1, -4)"
                + " stretches(0, 7, MIN)")
            .refused(-5, "stretches(0, -1, 4) stretches(0, 3, 4) stretches(0, 0, 8)"
                + " stretches(0, 0, 7) stretches(0, -1, 3) stretches(0, MAX, 4)"
                + " stretches(0, 4, MAX) stretches(3, 160, 4) stretches(3, 0, 161)")
            .refused(-6, "stretches(0, 0, 1) stretches(0, 0, 2) stretches(0, 0, 3)"
                + " stretches(0, 0, 5) stretches(0, 0, 6) stretches(0, 5, 1) stretches(3, 1, 159)");
    }

    private static void stretchesLeft() {
        Due.sentence(11, "-6 n below 0, above how many there are.");
        Calls.filled().refused(-6, "till(-1) till(5) till(MIN) till(MAX)");
        Calls.fresh().refused(-6, "till(-1) till(1)");
        Calls.full().refused(-6, "till(17)");
        Due.sentence(12, "-5: no such one, another what.");
        Calls.filled().refused(-5, "stretchOf(-1, 0) stretchOf(4, 0) stretchOf(0, -1)"
            + " stretchOf(3, 5) stretchOf(MAX, MAX)");
        Calls.fresh().refused(-5, "stretchOf(0, 0)");
    }

    private static void cars() {
        Due.sentence(13, "-6 also SHARES above 100 then; -7.");
        Calls.filled().refused(-6, "car(0, 0, 0) car(100, 0, 0) car(1, -1, 0) car(1, 1000, 0)"
            + " car(1, 0, -1) car(1, 0, 101) car(1, 0, 6) car(MAX, 0, 0) car(1, MIN, 0)"
            + " car(1, 0, MAX)");
        Calls.full().refused(-6, "car(0, 0, 0) car(1, 1000, 0) car(1, 0, 1)")
            .refused(-7, "car(1, 0, 0) car(99, 999, 0)");
        Due.sentence(14, "-5: no such one, another what.");
        Calls.filled().refused(-5, "carOf(-1, 0) carOf(3, 0) carOf(0, -1) carOf(2, 3)");
        Calls.fresh().refused(-5, "carOf(0, 0)");
    }

    private static void tunes() {
        Due.sentence(15, "-1; -2; -3; -4 n; -5 fewer elements; -6; -7.");
        Calls.filled().refused(-1, "tune(-1, 0) tune(8, -1)").refused(-2, "tune(4, 0) tune(4, -1)")
            .refused(-3, "tune(7, 0) tune(7, -1)").refused(-4, "tune(0, -1) tune(0, MIN)")
            .refused(-5, "tune(0, 4) tune(1, 2) tune(0, 13) tune(3, 81) tune(0, MAX)")
            .refused(-6, "tune(3, 13) tune(3, 80) tune(1, 1) tune(2, 1) tune(3, 12)");
        Calls.filled().calls("row(0, 2, 4) set(0, 1, 1) set(0, 3, 1)").refused(-5, "tune(0, 3)")
            .calls("set(0, 2, -1)").refused(-6, "tune(0, 2)")
            .calls("set(0, 2, 10000)").refused(-6, "tune(0, 2)")
            .calls("set(0, 2, 1) set(0, 3, 0)").refused(-6, "tune(0, 2)")
            .calls("set(0, 3, 17)").refused(-6, "tune(0, 2)").calls("set(0, 3, 16) tune(0, 2) = 3");
        Calls.full().refused(-4, "tune(0, -1)").refused(-5, "tune(0, 13)")
            .refused(-7, "tune(0, 0) tune(0, 12)").calls("set(0, 1, 17)").refused(-6, "tune(0, 1)");
    }

    private static void notesAndAsked() {
        Due.sentence(16, "-5: no such ones, another what.");
        Calls.filled().refused(-5, "noteOf(-1, 0, 0) noteOf(3, -1, 0) noteOf(0, 3, 0)"
            + " noteOf(0, -2, 0) noteOf(0, 0, -1) noteOf(0, 0, 2) noteOf(0, -1, 2)"
            + " noteOf(0, -1, -1) noteOf(1, 1, 1) noteOf(-1, -1, 0)");
        Due.sentence(17, "-6.");
        Calls.filled().refused(-6, "ask(0, 0) ask(0, 10000) ask(1, 1) ask(1, 31) ask(2, -1)"
            + " ask(2, 501) ask(3, 49) ask(3, 2001) ask(-1, 100) ask(4, 100) ask(MIN, 100)"
            + " ask(0, MAX) ask(1, MIN)");
    }

    private static void books() {
        Due.sentence(18, "-1; -2; -3; -6 a FAULT.");
        Calls.filled().refused(-1, "book(-1) book(8)").refused(-2, "book(4) book(5)")
            .refused(-3, "book(7)").refused(-6, "book(6)");
        Calls.fresh().refused(-1, "book(8)").refused(-3, "book(0)");
        Calls.filled().faulty("note 5 5;tune;note 6 6;near 9;car 9 9 5;even 5 5;x", 49);
    }

    private static void heard() {
        Due.sentence(20, "-1; -6.");
        Calls.filled().refused(-1, "hum(-1, 1) hum(4, 1) hum(4, 0)")
            .refused(-6, "hum(0, 0) hum(3, 100) hum(0, MIN) hum(0, MAX)");
        Due.sentence(21, "-1; -6.");
        Calls.filled().refused(-1, "lasts(-1, 1) lasts(4, 1) lasts(4, 0)")
            .refused(-6, "lasts(0, 0) lasts(3, 100) lasts(0, MIN) lasts(0, MAX)");
        Due.sentence(22, "-1; -6.");
        Calls.filled().refused(-1, "loud(-1, 0) loud(4, 0) loud(4, 51)")
            .refused(-6, "loud(0, -1) loud(3, 51) loud(0, MAX)");
        Due.sentence(23, "-6.");
        Calls.filled().refused(-6, "off(-1, 0) off(100000, 1) off(0, -1) off(1, 100000)"
            + " off(MIN, 1) off(1, MAX)");
        Due.sentence(24, "-1.");
        Calls.filled().refused(-1, "note(-1, 0, 0) note(3, 0, 0) note(0, -1, 0) note(0, 3, 0)"
            + " note(0, 0, -1) note(0, 0, 3) note(0, 1, 1)");
        Due.sentence(25, "-1; -5 another what.");
        Calls.filled().refused(-1, "hears(-1, 0, 0) hears(3, 0, 3) hears(0, -1, 0) hears(0, 3, -1)")
            .refused(-5, "hears(0, 0, -1) hears(2, 2, 3)");
        Due.sentence(28, "-6.");
        Calls.filled().refused(-6, "meet(-1) meet(1000) meet(MIN) meet(MAX)");
    }

    private static void cuts() {
        Due.sentence(29, "-1; -5 another what; -6.");
        Calls.filled().refused(-1, "cut(-1, 0, 1, 0) cut(3, 0, 0, 3) cut(0, -1, 1, 0)"
            + " cut(0, 3, 0, 0) cut(1, 1, 1, 3)").refused(-5, "cut(0, 0, 1, -1) cut(0, 2, 0, 3)")
            .refused(-6, "cut(0, 0, 0, 0) cut(2, 1, 100, 2)");
        Due.sentence(30, "-1; -6.");
        Calls.filled().refused(-1, "lay(-1, 1) lay(3, 0)").refused(-6, "lay(0, 0) lay(2, 100)");
        Due.sentence(31, "-1; -6.");
        Calls.filled().refused(-1, "fits(-1, 1) fits(3, 0)").refused(-6, "fits(0, 0) fits(2, 100)");
        Due.sentence(32, "-6.");
        Calls.filled().refused(-6, "can(0) can(100) can(MIN) can(MAX)");
        Calls.fresh().refused(-6, "can(0)");
        Due.sentence(33, "-1; -6.");
        Calls.filled().refused(-1, "served(-1, 1) served(3, 0)")
            .refused(-6, "served(0, 0) served(2, 100)");
        Due.sentence(34, "-1.");
        Calls.filled().refused(-1, "best(-1) best(3) best(MAX)");
        Calls.fresh().refused(-1, "best(0)");
        Due.sentence(35, "-1; -6 SPEEDS, not like many notes.");
        Calls.filled().refused(-1, "two(-1, 1, 0, 1) two(3, 0, 0, 0) two(0, 1, -1, 1)"
            + " two(0, 0, 3, 100)").refused(-6, "two(0, 0, 0, 1) two(0, 100, 0, 1) two(0, 1, 0, 0)"
            + " two(0, 1, 0, 100) two(0, 1, 1, 1) two(1, 1, 2, 1)");
        Due.sentence(36, "-1; -6.");
        Calls.filled().refused(-1, "brief(-1, 1) brief(3, 0)")
            .refused(-6, "brief(0, 0) brief(2, 100)");
    }

    private static void made() {
        Due.sentence(37, "-11; -16 (counted as -1, -6).");
        Calls.filled().refused(-11, "scale(-1, 1, 1) scale(4, 0, 0) scale(4, 1, 1)")
            .refused(-16, "scale(0, 0, 1) scale(0, 100, 1) scale(3, 1, 0) scale(3, 1, 10000)"
                + " scale(0, MIN, MAX)");
        Due.sentence(38, "-1; -5 no TUNES.");
        Calls.filled().refused(-1, "read(-1) read(3)");
        Calls.fresh().refused(-1, "read(0)").calls("car(1, 0, 0)").refused(-5, "read(0)")
            .refused(-1, "read(1)");
        Due.sentence(40, "-16 (counted as -6).");
        Calls.filled().refused(-16, "warns(-1) warns(100000) warns(MIN) warns(MAX)");
        Calls.fresh().refused(-16, "warns(-1)");
        Due.sentence(42, "-1; -6.");
        Calls.filled().refused(-1, "day(-1, 1) day(3, 0) day(3, 1)")
            .refused(-6, "day(0, 0) day(0, 201) day(2, -1) day(1, MAX)");
    }

    private static void kept() {
        Due.sentence(47, "-6 there is none.");
        Calls.fresh().calls("stretch(0, 1, 0, 1) seed(5) row(0, 0, 1) show(1, 0)")
            .refused(-6, "restore()").calls("image() = 1 till(0) restore() = 1 status(16) = 0");
    }

    private static void nothingRefused() {
        Due.about("calls that refuse nothing");
        Calls x = Calls.filled().calls("element(-1, 0) = 0 element(8, -1) = 0 element(7, 0) = 0"
            + " element(4, 0) = 0 element(0, 6) = 0 element(0, MIN) = 0 holds(-1) = -1 holds(8) = -1"
            + " fault() = 3 wrong() judge() mirror() worn() seed(MIN) = -9 trace(-1) = -1"
            + " trace(MAX) = -1 image() = 4 restore() = 4 status(-1) = -1 status(18) = -1"
            + " act(-1, 0, 0) = 0 act(4, 3, 0) = 0 act(0, -1, 0) = 0");
        for (int r = 11; r <= 17; r++) {
            x.calls("status(" + r + ") = " + (r == 16 ? 1 : 0));
        }
    }
}
