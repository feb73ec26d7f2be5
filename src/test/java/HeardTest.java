/** Promises 20 to 28: what is heard, and whether THE ROAD is LAWFUL. */
public final class HeardTest {
    private HeardTest() {
    }

    public static void main(String[] args) {
        hum();
        lasts();
        loud();
        off();
        note();
        hears();
        hearsLate();
        wrongByNear();
        firstTooNear();
        wrongByLong();
        meet();
        Due.end("HeardTest");
    }

    private static RoadThatSings ofAllKinds(int space, int other, int times) {
        RoadThatSings x = new RoadThatSings();
        for (int kind = 0; kind < 7; kind++) {
            x.stretch(kind, space, other, times);
        }
        return x;
    }

    private static void hum() {
        Due.promise(20, "hum");
        RoadThatSings x = ofAllKinds(9, 4, 3);
        // 704 * 37 = 26048: by 9 2894, by 13 2003
        int[] due = {2894, 2894, 4006, 0, 2894, 2003, 2894};
        for (int kind = 0; kind < 7; kind++) {
            Due.due("hum of kind " + kind, x.hum(kind, 37), due[kind]);
        }
        Due.due("slowest", x.hum(0, 1), 78);
        Due.due("fastest", x.hum(0, 99), 7744);
        Due.due("no stretch", x.hum(7, 0), -1);
        Due.due("no stretch", x.hum(-1, 1), -1);
        Due.due("speed", x.hum(0, 0), -6);
        Due.due("speed", x.hum(0, 100), -6);
        Due.refused(x, -1, 2);
        Due.refused(x, -6, 2);
    }

    private static void lasts() {
        Due.promise(21, "lasts");
        RoadThatSings x = ofAllKinds(60, 60, 60);
        // 3600 * 10000 / 704 = 51136, 7200 * 10000 / 704 = 102272
        int[] due = {51136, 51136, 102272, 51136, 51136, 102272, 51136};
        for (int kind = 0; kind < 7; kind++) {
            Due.due("lasts of kind " + kind, x.lasts(kind, 1), due[kind]);
        }
        Due.due("fastest", x.lasts(2, 99), 1033);
        x.till(0);
        x.stretch(6, 60, 0, 60);
        Due.due("a told one of no OTHER", x.lasts(0, 1), 0);
        Due.due("no stretch", x.lasts(1, 0), -1);
        Due.due("speed", x.lasts(0, 0), -6);
        Due.due("speed", x.lasts(0, 100), -6);
        Due.refused(x, -1, 1);
        Due.refused(x, -6, 2);
    }

    private static void loud() {
        Due.promise(22, "loud");
        RoadThatSings x = ofAllKinds(9, 4, 3);
        int[] fresh = {10, 10, 10, 0, 15, 8, 10};
        for (int kind = 0; kind < 7; kind++) {
            Due.due("new", x.loud(kind, 0), fresh[kind]);
            Due.due("four years", x.loud(kind, 4), fresh[kind]);
            Due.due("five years", x.loud(kind, 5), Math.max(0, fresh[kind] - 1));
            Due.due("fifty years", x.loud(kind, 50), Math.max(0, fresh[kind] - 10));
        }
        Due.due("no stretch", x.loud(7, -1), -1);
        Due.due("years", x.loud(0, -1), -6);
        Due.due("years", x.loud(0, 51), -6);
        Due.refused(x, -1, 1);
        Due.refused(x, -6, 2);
    }

    private static void off() {
        Due.promise(23, "off");
        RoadThatSings x = new RoadThatSings();
        Due.due("above", x.off(453, 440), 29);
        Due.due("below", x.off(427, 440), 29);
        Due.due("alike", x.off(440, 440), 0);
        Due.due("999 at most", x.off(2000, 1000), 999);
        Due.due("just below", x.off(1999, 1000), 999);
        Due.due("998", x.off(1998, 1000), 998);
        Due.due("a rest heard", x.off(0, 0), 0);
        Due.due("a rest wanted", x.off(1, 0), 999);
        Due.due("none heard", x.off(0, 99999), 999);
        Due.due("most", x.off(99999, 99999), 0);
        Due.due("wrong", x.off(-1, 5), -6);
        Due.due("wrong", x.off(100000, 5), -6);
        Due.due("wrong", x.off(5, -1), -6);
        Due.due("wrong", x.off(5, 100000), -6);
        Due.refused(x, -6, 4);
    }

    private static RoadThatSings withTune() {
        RoadThatSings x = new RoadThatSings();
        x.stretch(1, 8, 0, 20);
        x.stretch(3, 10, 0, 7);
        x.stretch(1, 10, 0, 9);
        x.car(40, 0, 50);
        x.car(20, 0, 50);
        Due.tune(x, 3500, 2, 0, 1, 0, 1, 100, 1, 0, 1);
        Due.tune(x, 3500, 1, 0, 1, 2800, 1);
        Due.tune(x);
        return x;
    }

    private static void note() {
        Due.promise(24, "note");
        RoadThatSings x = withTune();
        Due.due("as heard: 3520 for 3500", x.note(0, 0, 0), 5);
        Due.due("slower: 1760 for 3500", x.note(1, 0, 0), 497);
        Due.due("rest on a rest", x.note(0, 0, 1), 0);
        Due.due("rest on grooves", x.note(0, 0, 2), 999);
        Due.due("without a stretch", x.note(0, 0, 3), 999);
        Due.due("a rest without a stretch", x.note(0, 0, 4), 999);
        Due.due("no note", x.note(0, 0, 5), -1);
        Due.due("no note", x.note(0, 0, -1), -1);
        Due.due("no tune", x.note(0, 3, 0), -1);
        Due.due("no car", x.note(2, 0, 0), -1);
        Due.due("no car", x.note(-1, 0, 0), -1);
        Due.refused(x, -1, 5);
    }

    private static void hears() {
        Due.promise(25, "hears");
        RoadThatSings x = withTune();
        Due.due("WORST", x.hears(0, 0, 0), 999);
        Due.due("not heard", x.hears(0, 0, 2), 0);
        Due.due("WORST: 2816 for 2800", x.hears(0, 1, 0), 5);
        Due.due("heard", x.hears(0, 1, 2), 1);
        x.ask(2, 5);
        Due.due("BORNE at most", x.hears(0, 1, 2), 1);
        x.ask(2, 4);
        Due.due("above BORNE", x.hears(0, 1, 2), 0);
        Due.due("WORST of the slow", x.hears(1, 1, 0), 497);
        Due.due("a tune of none", x.hears(0, 2, 0), 0);
        Due.due("a tune of none", x.hears(0, 2, 1), 0);
        Due.due("a tune of none", x.hears(0, 2, 2), 1);
        Due.due("no car", x.hears(2, 0, 3), -1);
        Due.due("no tune", x.hears(0, 3, 3), -1);
        Due.due("what", x.hears(0, 0, 3), -5);
        Due.due("what", x.hears(0, 0, -1), -5);
        Due.refused(x, -1, 2);
        Due.refused(x, -5, 2);
    }

    private static void hearsLate() {
        Due.promise(25, "hears");
        RoadThatSings x = withTune();
        // begins 0 56 80 111 111, due 0 400 600 800 1000
        Due.due("LATE", x.hears(0, 0, 1), 889);
        // begins 0 113 162, due 0 200 400
        Due.due("LATE of the slow", x.hears(1, 1, 1), 238);
        x.ask(3, 50);
        // begins 0 113 162, due 0 50 100
        Due.due("LATE behind", x.hears(1, 1, 1), 63);
        x.till(0);
        x.stretch(1, 60, 0, 60);
        x.stretch(1, 8, 0, 1);
        // begins 0 1278 1281, due 0 50 100
        Due.due("LATE ahead", x.hears(0, 1, 1), 1228);
    }

    private static void wrongByNear() {
        Due.promise(26, "wrong");
        RoadThatSings x = new RoadThatSings();
        Due.due("no stretches", x.wrong(), 0);
        Due.promise(27, "judge");
        Due.due("none", x.judge(), -1);
        // NEAR is 4: which kinds are WRONG by SPACE 3, by OTHER 3, by OTHER 0
        boolean[] bySpace = {true, true, true, false, true, true, false};
        boolean[] byOther = {false, false, true, false, false, true, false};
        for (int kind = 0; kind < 7; kind++) {
            judged("kind " + kind + " SPACE 3", kind, 3, 9, bySpace[kind]);
            judged("kind " + kind + " OTHER 3", kind, 4, 3, byOther[kind]);
            judged("kind " + kind + " OTHER 4", kind, 4, 4, false);
            judged("kind " + kind + " OTHER 0", kind, 4, 0, false);
        }
    }

    private static void firstTooNear() {
        Due.promise(27, "judge");
        RoadThatSings x = new RoadThatSings();
        x.stretch(1, 3, 0, 1);
        x.stretch(1, 2, 0, 1);
        Due.due("the first", x.judge(), 0);
        x.ask(1, 3);
        Due.due("the second", x.judge(), 1);
        x.ask(1, 2);
        Due.due("none", x.judge(), -1);
    }

    private static void judged(String what, int kind, int space, int other, boolean wrong) {
        RoadThatSings x = new RoadThatSings();
        x.stretch(1, 4, 0, 1);
        x.stretch(kind, space, other, 1);
        x.stretch(1, 4, 0, 60);
        Due.promise(26, "wrong");
        Due.due(what, x.wrong(), wrong ? 1 : 0);
        Due.promise(27, "judge");
        Due.due(what, x.judge(), wrong ? 1 : -1);
        x.ask(0, 100);
        Due.promise(26, "wrong");
        Due.due(what + " and beyond LONG", x.wrong(), wrong ? 1 : 2);
        Due.promise(27, "judge");
        Due.due(what + " and beyond LONG", x.judge(), wrong ? 1 : 2);
    }

    private static void wrongByLong() {
        Due.promise(26, "wrong");
        RoadThatSings x = new RoadThatSings();
        x.stretch(1, 10, 0, 10);
        x.stretch(3, 1, 0, 50);
        x.stretch(6, 60, 10, 5);
        x.stretch(1, 10, 0, 1);
        x.ask(0, 210);
        Due.due("LONG at most", x.wrong(), 0);
        Due.due("none", x.judge(), -1);
        x.ask(0, 209);
        Due.due("above", x.wrong(), 2);
        Due.promise(27, "judge");
        Due.due("the last", x.judge(), 3);
        x.ask(0, 150);
        Due.due("the third", x.judge(), 2);
        x.ask(0, 149);
        Due.due("the second", x.judge(), 1);
        x.ask(0, 99);
        Due.due("the first", x.judge(), 0);
    }

    private static void meet() {
        Due.promise(28, "meet");
        RoadThatSings x = ofAllKinds(9, 4, 3);
        Due.due("base 0: all but the rest", x.meet(0), 0b1110111);
        Due.due("by 9", x.meet(18), 0b1010011);
        Due.due("by 13", x.meet(26), 0b0100100);
        Due.due("by both", x.meet(117), 0b1110111);
        Due.due("none", x.meet(8), 0);
        Due.due("most", x.meet(999), 0b1010011);
        Due.due("wrong", x.meet(-1), -6);
        Due.due("wrong", x.meet(1000), -6);
        Due.refused(x, -6, 2);
        for (int i = 7; i < 16; i++) {
            x.stretch(0, 1, 0, 1);
        }
        Due.due("sixteen", x.meet(1), 0b1111111110000000);
        Due.due("none", new RoadThatSings().meet(0), 0);
    }
}
