/** Promises 9 to 17: STRETCHES, CARS, TUNES and what is asked of THE ROAD. */
public final class RoadTest {
    private RoadTest() {
    }

    public static void main(String[] args) {
        stretch();
        stretches();
        stretchesRefused();
        stretchesOfLongs();
        till();
        stretchOf();
        car();
        carOf();
        tune();
        tuneRefused();
        noteOf();
        ask();
        Due.end("RoadTest");
    }

    private static void stretch() {
        Due.promise(9, "stretch");
        RoadThatSings x = new RoadThatSings();
        Due.due("least", x.stretch(0, 1, 0, 1), 0);
        Due.due("most", x.stretch(6, 60, 60, 60), 1);
        Due.due("kind ahead", x.stretch(7, 0, 0, 0), -1);
        Due.due("kind", x.stretch(-1, 1, 0, 1), -1);
        int[][] wrong = {{0, 0, 1}, {61, 0, 1}, {1, -1, 1}, {1, 61, 1}, {1, 0, 0}, {1, 0, 61}};
        for (int[] w : wrong) {
            Due.due("wrong", x.stretch(1, w[0], w[1], w[2]), -6);
        }
        for (int i = 2; i < 16; i++) {
            Due.due("number", x.stretch(i % 7, 5, 5, 5), i);
        }
        Due.due("room", x.stretch(1, 1, 0, 1), -7);
        Due.due("wrong ahead of room", x.stretch(1, 0, 0, 1), -6);
        Due.due("how many", x.status(0), 16);
        Due.refused(x, -1, 2);
        Due.refused(x, -6, 7);
        Due.refused(x, -7, 1);
    }

    private static void stretches() {
        Due.promise(10, "stretches");
        RoadThatSings x = new RoadThatSings();
        Due.ints(x, 0, 99, 1, 8, 0, 2, 6, 5, 3, 4, 7, 1, 1, 1);
        Due.due("two", x.stretches(0, 1, 8), 2);
        Due.due("LENGTHS", x.status(3), 16 + 12);
        Due.due("until one that can't be", x.stretches(0, 1, 12), 2);
        Due.due("how many", x.status(0), 4);
        Due.ints(x, 1, 0, 5, 0, 5, 0, 5, 0, 5, -1, 5, 0, 5, 0, 5, 0, 5);
        Due.due("no more than n", x.stretches(1, 0, 4), 1);
        Due.due("until no KIND", x.stretches(1, 4, 12), 1);
        x.till(4);
        Due.due("the fourth's kind", x.stretchOf(3, 0), 6);
        Due.due("the fourth's times", x.stretchOf(3, 3), 4);
        Due.due("first can't be", x.stretches(0, 9, 4), 0);
        Due.due("none", x.stretches(0, 13, 0), 0);
        for (int i = 4; i < 15; i++) {
            x.stretch(0, 1, 0, 1);
        }
        Due.due("room for one", x.stretches(0, 1, 8), 1);
        Due.due("room for none", x.stretches(0, 1, 8), 0);
        Due.due("how many", x.status(0), 16);
        for (int refusal = -1; refusal >= -7; refusal--) {
            Due.refused(x, refusal, 0);
        }
    }

    private static void stretchesRefused() {
        Due.promise(10, "stretches");
        RoadThatSings x = new RoadThatSings();
        Due.ints(x, 0, 1, 8, 0, 2, 1, 8, 0, 2);
        x.stretch(0, 1, 0, 1);
        x.show(1, 0);
        Due.due("no shelf", x.stretches(8, 0, 4), -1);
        Due.due("no shelf", x.stretches(-1, 0, 4), -1);
        Due.due("a stretch", x.stretches(1, -1, -1), -2);
        Due.due("nothing", x.stretches(2, -1, -1), -3);
        Due.due("below", x.stretches(0, -1, -1), -4);
        Due.due("beyond", x.stretches(0, -1, 4), -5);
        Due.due("beyond", x.stretches(0, 5, 4), -5);
        Due.due("beyond ahead of fours", x.stretches(0, 0, 9), -5);
        Due.due("far beyond", x.stretches(0, 4, Integer.MAX_VALUE), -5);
        Due.due("no fours", x.stretches(0, 0, 6), -6);
        Due.due("refused: as it was", x.status(0), 1);
        Due.refused(x, -1, 2);
        Due.refused(x, -2, 1);
        Due.refused(x, -3, 1);
        Due.refused(x, -4, 1);
        Due.refused(x, -5, 4);
        Due.refused(x, -6, 1);
    }

    private static void stretchesOfLongs() {
        Due.promise(10, "stretches");
        RoadThatSings x = new RoadThatSings();
        x.row(0, 3, 4);
        long[] elements = {0x700000001L, 0x100000008L, 0xF00000000L, -0xFFFFFFFEL};
        for (int i = 0; i < 4; i++) {
            x.set(0, i, elements[i]);
        }
        Due.due("lowest 32 bits", x.stretches(0, 0, 4), 1);
        Due.due("LENGTHS", x.status(3), 16);
    }

    private static void till() {
        Due.promise(11, "till");
        RoadThatSings x = new RoadThatSings();
        Due.due("of none", x.till(0), 0);
        Due.due("above", x.till(1), -6);
        for (int i = 0; i < 5; i++) {
            x.stretch(0, i + 1, 0, 1);
            x.show(i, i);
        }
        Due.due("all stay", x.till(5), 5);
        Due.due("below", x.till(-1), -6);
        Due.due("above", x.till(6), -6);
        Due.due("three", x.till(3), 3);
        Due.due("how many", x.status(0), 3);
        Due.due("LENGTHS", x.status(3), 6);
        for (int i = 0; i < 5; i++) {
            Due.due("shelf " + i, x.holds(i), i < 3 ? i : -1);
        }
        Due.due("the next number", x.stretch(0, 9, 0, 1), 3);
        Due.due("none", x.till(0), 0);
        Due.due("shelf 0", x.holds(0), -1);
        Due.refused(x, -6, 3);
    }

    private static void stretchOf() {
        Due.promise(12, "stretchOf");
        RoadThatSings x = new RoadThatSings();
        int[] lengths = {27, 27, 39, 27, 27, 39, 12};
        for (int kind = 0; kind < 7; kind++) {
            x.stretch(kind, 9, 4, 3);
            Due.due("KIND", x.stretchOf(kind, 0), kind);
            Due.due("SPACE", x.stretchOf(kind, 1), 9);
            Due.due("OTHER", x.stretchOf(kind, 2), 4);
            Due.due("TIMES", x.stretchOf(kind, 3), 3);
            Due.due("LENGTH of " + kind, x.stretchOf(kind, 4), lengths[kind]);
        }
        Due.due("no such", x.stretchOf(7, 0), -5);
        Due.due("no such", x.stretchOf(-1, 0), -5);
        Due.due("what", x.stretchOf(0, 5), -5);
        Due.due("what", x.stretchOf(0, -1), -5);
        Due.refused(x, -5, 4);
        Due.refused(x, -1, 0);
    }

    private static void car() {
        Due.promise(13, "car");
        RoadThatSings x = new RoadThatSings();
        Due.due("least", x.car(1, 0, 0), 0);
        Due.due("most", x.car(99, 999, 60), 1);
        int[][] wrong =
            {{0, 0, 0}, {100, 0, 0}, {1, -1, 0}, {1, 1000, 0}, {1, 0, -1}, {1, 0, 41}};
        for (int[] w : wrong) {
            Due.due("wrong", x.car(w[0], w[1], w[2]), -6);
        }
        Due.due("all shares", x.car(50, 5, 40), 2);
        Due.due("above 100", x.car(50, 5, 1), -6);
        for (int i = 3; i < 6; i++) {
            Due.due("number", x.car(i, 0, 0), i);
        }
        Due.due("room", x.car(1, 0, 0), -7);
        Due.due("wrong ahead of room", x.car(1, 0, 1), -6);
        Due.due("far above", x.car(1, 0, Integer.MAX_VALUE), -6);
        Due.due("how many", x.status(1), 6);
        Due.due("SHARES", x.status(4), 100);
        Due.refused(x, -6, 9);
        Due.refused(x, -7, 1);
    }

    private static void carOf() {
        Due.promise(14, "carOf");
        RoadThatSings x = new RoadThatSings();
        x.car(40, 120, 60);
        x.car(55, 90, 40);
        int[][] due = {{40, 120, 60}, {55, 90, 40}};
        for (int car = 0; car < 2; car++) {
            for (int what = 0; what < 3; what++) {
                Due.due("carOf", x.carOf(car, what), due[car][what]);
            }
        }
        Due.due("no such", x.carOf(2, 0), -5);
        Due.due("no such", x.carOf(-1, 0), -5);
        Due.due("what", x.carOf(0, 3), -5);
        Due.due("what", x.carOf(0, -1), -5);
        Due.refused(x, -5, 4);
    }

    private static void tune() {
        Due.promise(15, "tune");
        RoadThatSings x = new RoadThatSings();
        Due.ints(x, 0, 0, 1, 9999, 16, 440, 7, -1, -1);
        Due.due("of three", x.tune(0, 3), 0);
        Due.due("of none", x.tune(0, 0), 1);
        Due.due("PITCH", x.noteOf(0, 1, 0), 9999);
        Due.due("BEATS", x.noteOf(0, 1, 1), 16);
        Due.due("BEATS", x.noteOf(0, 2, 1), 7);
        Due.due("notes", x.noteOf(0, -1, 0), 3);
        x.row(1, 3, 24);
        for (int i = 0; i < 24; i++) {
            x.set(1, i, 0x500000001L);
        }
        Due.due("twelve of longs", x.tune(1, 12), 2);
        Due.due("notes", x.noteOf(2, -1, 0), 12);
        Due.due("PITCH", x.noteOf(2, 11, 0), 1);
        x.row(2, 0, 0);
        Due.due("of an empty row", x.tune(2, 0), 3);
        Due.due("how many", x.status(2), 4);
    }

    private static void tuneRefused() {
        Due.promise(15, "tune");
        RoadThatSings x = new RoadThatSings();
        x.stretch(0, 1, 0, 1);
        x.show(1, 0);
        x.row(0, 2, 26);
        Due.due("no shelf", x.tune(8, 0), -1);
        Due.due("no shelf", x.tune(-1, 0), -1);
        Due.due("a stretch", x.tune(1, -1), -2);
        Due.due("nothing", x.tune(2, -1), -3);
        Due.due("below", x.tune(0, -1), -4);
        Due.due("fewer", x.tune(0, 14), -5);
        Due.due("far fewer", x.tune(0, Integer.MAX_VALUE), -5);
        Due.due("thirteen", x.tune(0, 13), -6);
        x.row(0, 2, 3);
        x.set(0, 1, 1);
        Due.due("half a note", x.tune(0, 2), -5);
        Due.due("one", x.tune(0, 1), 0);
        long[][] wrong = {{-1, 1}, {10000, 1}, {1, 0}, {1, 17}, {1, -1}};
        for (long[] w : wrong) {
            Due.ints(x, 0, w[0], w[1], 5, 5);
            Due.due("wrong at first", x.tune(0, 2), -6);
            Due.ints(x, 0, 5, 5, w[0], w[1], 5, 5);
            Due.due("wrong", x.tune(0, 3), -6);
        }
        for (int i = 1; i < 6; i++) {
            Due.due("number", x.tune(0, 1), i);
        }
        Due.due("wrong ahead of room", x.tune(0, 3), -6);
        Due.due("room", x.tune(0, 1), -7);
        Due.due("how many", x.status(2), 6);
        Due.refused(x, -1, 2);
        Due.refused(x, -2, 1);
        Due.refused(x, -3, 1);
        Due.refused(x, -4, 1);
        Due.refused(x, -5, 3);
        Due.refused(x, -6, 12);
        Due.refused(x, -7, 1);
    }

    private static void noteOf() {
        Due.promise(16, "noteOf");
        RoadThatSings x = new RoadThatSings();
        Due.tune(x, 440, 2, 0, 3, 9999, 16);
        Due.tune(x);
        Due.due("PITCH", x.noteOf(0, 0, 0), 440);
        Due.due("BEATS", x.noteOf(0, 1, 1), 3);
        Due.due("rest", x.noteOf(0, 1, 0), 0);
        Due.due("how many", x.noteOf(0, RoadThatSings.NONE, 0), 3);
        Due.due("BEATS of all", x.noteOf(0, RoadThatSings.NONE, 1), 21);
        Due.due("of none", x.noteOf(1, -1, 0), 0);
        Due.due("of none", x.noteOf(1, -1, 1), 0);
        Due.due("no note", x.noteOf(0, 3, 0), -5);
        Due.due("no note", x.noteOf(0, -2, 0), -5);
        Due.due("no note", x.noteOf(1, 0, 0), -5);
        Due.due("no tune", x.noteOf(2, -1, 0), -5);
        Due.due("no tune", x.noteOf(-1, 0, 0), -5);
        Due.due("what", x.noteOf(0, 0, 2), -5);
        Due.due("what", x.noteOf(0, -1, -1), -5);
        Due.refused(x, -5, 7);
        Due.refused(x, -1, 0);
    }

    private static void ask() {
        Due.promise(17, "ask");
        RoadThatSings x = new RoadThatSings();
        int[] first = {2000, 4, 20, 200};
        int[] least = {1, 2, 0, 50};
        int[] most = {9999, 30, 500, 2000};
        for (int what = 0; what < 4; what++) {
            Due.due("least", x.ask(what, least[what]), first[what]);
            Due.due("most", x.ask(what, most[what]), least[what]);
            Due.due("below", x.ask(what, least[what] - 1), -6);
            Due.due("above", x.ask(what, most[what] + 1), -6);
        }
        for (int what = 0; what < 4; what++) {
            Due.due("refused: as it was", x.ask(what, least[what]), most[what]);
        }
        Due.due("what", x.ask(4, 100), -6);
        Due.due("what", x.ask(-1, 100), -6);
        Due.refused(x, -6, 10);
    }
}
