/** Promises 43 to 48: SEED, ACTS, THE TRACE, THE IMAGE, status. */
public final class StateTest {
    private StateTest() {
    }

    public static void main(String[] args) {
        seed();
        act();
        actWraps();
        trace();
        noTrace();
        image();
        restore();
        restoreAndShelves();
        status();
        Due.end("StateTest");
    }

    private static void seed() {
        Due.promise(43, "seed");
        RoadThatSings x = new RoadThatSings();
        Due.due("at first", x.seed(9), 1);
        Due.due("was", x.seed(Integer.MIN_VALUE), 9);
        Due.due("was", x.seed(0), Integer.MIN_VALUE);
        Due.due("is", x.status(5), 0);
        for (int refusal = -1; refusal >= -7; refusal--) {
            Due.refused(x, refusal, 0);
        }
    }

    /** Each KIND at its own number m, with SPACE k = 9. */
    private static RoadThatSings ofAllKinds() {
        RoadThatSings x = new RoadThatSings();
        for (int kind = 0; kind < 7; kind++) {
            x.stretch(kind, 9, 4, 3);
        }
        return x;
    }

    private static void act() {
        Due.promise(44, "act");
        RoadThatSings x = ofAllKinds();
        // of x = 100: hums, lasts, wears
        int[][] due = {
            {100, 200, 200 ^ 91},
            {110, 220, 220 ^ 101},
            {111, 666, 666 ^ 102},
            {103, 206, 206 ^ 94 ^ 5},
            {113, 226, -(226 ^ 104)},
            {109, 660, 660 ^ 100},
            {212, 424, 388 ^ 176},
        };
        for (int kind = 0; kind < 7; kind++) {
            for (int act = 0; act < 3; act++) {
                Due.due("act " + act + " of kind " + kind, x.act(kind, act, 100), due[kind][act]);
            }
        }
        Due.due("no stretch", x.act(7, 0, 5), 0);
        Due.due("no stretch", x.act(-1, 0, 5), 0);
        Due.due("no act", x.act(0, 3, 5), 0);
        Due.due("no act", x.act(0, -1, 5), 0);
        for (int refusal = -1; refusal >= -7; refusal--) {
            Due.refused(x, refusal, 0);
        }
    }

    private static void actWraps() {
        Due.promise(44, "act");
        RoadThatSings x = ofAllKinds();
        int most = Integer.MAX_VALUE;
        Due.due("hums", x.act(1, 0, most), Integer.MIN_VALUE + 9);
        Due.due("lasts", x.act(0, 1, most), -2);
        Due.due("told", x.act(6, 0, most), 10);
        Due.due("wears", x.act(0, 2, Integer.MIN_VALUE), most - 8);
    }

    private static void traced(RoadThatSings x, int stretch, int act, int... due) {
        x.act(stretch, act, 5);
        for (int i = 0; i < due.length; i++) {
            Due.due("trace(" + i + ") of " + stretch + ", " + act, x.trace(i), due[i]);
        }
        Due.due("trace's end of " + stretch + ", " + act, x.trace(due.length), -1);
        Due.due("how many", x.status(6), due.length);
    }

    private static void trace() {
        Due.promise(45, "trace");
        RoadThatSings x = ofAllKinds();
        traced(x, 0, 0, 10);
        traced(x, 0, 1, 11, 10);
        traced(x, 0, 2, 12, 11, 10, 10);
        traced(x, 1, 0, 20, 10);
        traced(x, 1, 1, 11, 20, 10);
        traced(x, 1, 2, 12, 11, 20, 10, 20, 10);
        traced(x, 2, 0, 20, 10);
        traced(x, 2, 1, 30, 11, 20, 10);
        traced(x, 2, 2, 12, 30, 11, 20, 10, 20, 10);
        traced(x, 3, 0, 10);
        traced(x, 3, 1, 11, 10);
        traced(x, 3, 2, 60, 12, 11, 10, 10);
        traced(x, 4, 0, 20, 10);
        traced(x, 4, 1, 11, 20, 10);
        traced(x, 4, 2, 50, 12, 11, 20, 10, 20, 10);
        traced(x, 5, 0, 41, 20, 10);
        traced(x, 5, 1, 40, 30, 11, 41, 20, 10);
        traced(x, 5, 2, 12, 40, 30, 11, 41, 20, 10, 41, 20, 10);
        traced(x, 6, 0, 70, 10);
        traced(x, 6, 1, 11, 70, 10);
        traced(x, 6, 2, 71, 12, 11, 70, 10, 70, 10);
    }

    private static void noTrace() {
        Due.promise(45, "trace");
        RoadThatSings x = ofAllKinds();
        Due.due("none yet", x.trace(0), -1);
        x.act(5, 2, 1);
        Due.due("below", x.trace(-1), -1);
        Due.due("beyond", x.trace(20), -1);
        Due.due("beyond", x.trace(Integer.MAX_VALUE), -1);
        x.act(7, 0, 1);
        Due.due("no stretch, no trace", x.trace(0), -1);
        Due.due("none ran", x.status(6), 0);
        x.act(0, 0, 1);
        x.act(0, 3, 1);
        Due.due("no act, no trace", x.trace(0), -1);
        Due.due("none ran", x.status(6), 0);
    }

    private static RoadThatSings filled() {
        RoadThatSings x = new RoadThatSings();
        Due.book(x, "even 8 2;pair 9 4 3;car 40 120 60;car 50 5 5;tune;note 440 2;note 880 3;tune;"
            + "note 5 5;long 999;near 5;borne 55;tempo 555");
        x.seed(321);
        return x;
    }

    private static void spoil(RoadThatSings x) {
        x.till(0);
        Due.book(x, "told 1 1 1;rest 2 2;even 3 3;car 1 1 1;note 7 7;tune;note 6 6;long 1;near 9;"
            + "borne 9;tempo 99");
        x.seed(-5);
    }

    private static void isAsFilled(RoadThatSings x) {
        int[][] stretches = {{1, 8, 0, 2}, {2, 9, 4, 3}};
        int[][] cars = {{40, 120, 60}, {50, 5, 5}};
        int[] status = {2, 2, 2, 55, 65, 321};
        for (int what = 0; what < status.length; what++) {
            Due.due("status(" + what + ")", x.status(what), status[what]);
        }
        for (int i = 0; i < 2; i++) {
            for (int what = 0; what < 4; what++) {
                Due.due("stretchOf", x.stretchOf(i, what), stretches[i][what]);
            }
            for (int what = 0; what < 3; what++) {
                Due.due("carOf", x.carOf(i, what), cars[i][what]);
            }
        }
        Due.due("notes", x.noteOf(0, -1, 0), 2);
        Due.due("notes", x.noteOf(1, -1, 0), 1);
        Due.due("PITCH", x.noteOf(0, 1, 0), 880);
        Due.due("BEATS", x.noteOf(1, 0, 1), 5);
        int[] asked = {999, 5, 55, 555};
        for (int what = 0; what < 4; what++) {
            Due.due("asked " + what, x.ask(what, asked[what]), asked[what]);
        }
    }

    private static void image() {
        Due.promise(46, "image");
        RoadThatSings x = new RoadThatSings();
        Due.due("of none", x.image(), 0);
        x = filled();
        Due.due("how many STRETCHES", x.image(), 2);
        isAsFilled(x);
        spoil(x);
        Due.due("over the earlier", x.image(), 3);
        x.till(1);
        Due.due("restore()", x.restore(), 3);
    }

    private static void restore() {
        Due.promise(47, "restore");
        RoadThatSings x = filled();
        Due.due("no image", x.restore(), -6);
        Due.refused(x, -6, 1);
        x.image();
        spoil(x);
        Due.book(x, "even");
        int fault = x.fault();
        x.act(0, 1, 5);
        Due.due("how many STRETCHES", x.restore(), 2);
        isAsFilled(x);
        Due.due("the FAULT stays", x.fault(), fault);
        Due.due("THE TRACE stays", x.trace(0), 11);
        Due.due("REFUSALS stay", x.status(16), 2);
        spoil(x);
        Due.due("again", x.restore(), 2);
        isAsFilled(x);
    }

    private static void restoreAndShelves() {
        Due.promise(47, "restore");
        RoadThatSings x = filled();
        x.image();
        spoil(x);
        x.row(0, 3, 1);
        x.set(0, 0, 77);
        for (int i = 0; i < 3; i++) {
            x.show(i + 1, i);
        }
        Due.due("restore()", x.restore(), 2);
        Due.due("a row stays", x.element(0, 0), 77);
        Due.due("a stretch's number", x.holds(1), 0);
        Due.due("its stretch is the image's", x.says(1, 1), 8);
        Due.due("a stretch's number", x.holds(2), 1);
        Due.due("no such stretch", x.holds(3), -1);
    }

    private static void status() {
        Due.promise(48, "status");
        RoadThatSings x = filled();
        int[] due = {2, 2, 2, 55, 65, 321, 0};
        for (int what = 0; what < 7; what++) {
            Due.due("status(" + what + ")", x.status(what), due[what]);
        }
        for (int what : new int[] {-1, 7, 8, 9, 10, 18, 19, Integer.MIN_VALUE, Integer.MAX_VALUE}) {
            Due.due("status(" + what + ")", x.status(what), -1);
        }
        x.act(5, 2, 1);
        Due.due("none ran", x.status(6), 0);
        x.act(1, 2, 1);
        Due.due("ran", x.status(6), 7);
        x.row(9, 0, 0);
        x.show(0, 0);
        x.set(0, 0, 0);
        x.book(0);
        x.set(1, 0, 0);
        x.copy(1, 1, 0, 0, 0);
        x.book(1);
        x.row(0, 0, -1);
        x.carOf(9, 0);
        x.hears(0, 0, 7);
        x.warns(-1);
        x.scale(9, 1, 1);
        x.scale(0, 0, 1);
        x.hum(0, 0);
        x.row(0, 0, 999);
        int[] refusals = {2, 2, 3, 1, 2, 3, 1};
        for (int i = 0; i < 7; i++) {
            Due.due("REFUSALS -" + (i + 1), x.status(11 + i), refusals[i]);
        }
    }
}
