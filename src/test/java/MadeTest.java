/** Promises 29 to 42: what is made of THE ROAD. */
public final class MadeTest {
    private MadeTest() {
    }

    public static void main(String[] args) {
        cutSpace();
        cutTimes();
        cutRefused();
        lay();
        layAndShelves();
        fits();
        can();
        served();
        best();
        two();
        brief();
        scale();
        read();
        mirror();
        warns();
        worn();
        day();
        dayRefused();
        Due.end("MadeTest");
    }

    private static void cutNote(RoadThatSings x, int tune, int note, int speed, int... due) {
        for (int what = 0; what < due.length; what++) {
            Due.due("cut(" + tune + ", " + note + ", " + speed + ", " + what + ")",
                x.cut(tune, note, speed, what), due[what]);
        }
    }

    private static void cutSpace() {
        Due.promise(29, "cut");
        RoadThatSings x = new RoadThatSings();
        Due.tune(x, 700, 1, 672, 1, 9999, 1, 0, 1, 13, 1, 1, 1, 1760, 1);
        cutNote(x, 0, 0, 10, 10, 14, 5);
        // 704 and 640 are both 47 off 672: the less SPACE
        cutNote(x, 0, 1, 10, 10, 14, 47);
        // the nearest are too near: NEAR
        cutNote(x, 0, 2, 10, 4, 35, 823);
        cutNote(x, 0, 3, 10, 10, 14, 0);
        // 51 to 54 all hum 13
        cutNote(x, 0, 4, 1, 51, 1, 0);
        // all are 999 off
        cutNote(x, 0, 5, 99, 4, 60, 999);
        cutNote(x, 0, 6, 10, 4);
        x.ask(1, 30);
        cutNote(x, 0, 0, 10, 30);
        cutNote(x, 0, 5, 99, 30);
        Due.due("a rest whatever NEAR is", x.cut(0, 3, 10, 0), 10);
        x.ask(1, 2);
        cutNote(x, 0, 5, 99, 2);
        // the most SPACE: 7040 by 60
        Due.tune(x, 1, 1);
        cutNote(x, 1, 0, 1, 2, 7, 999);
        Due.tune(x, 117, 1);
        cutNote(x, 2, 0, 10, 60);
        // at 99 a SPACE of 59 is 999 off, of 60 it is 998
        Due.tune(x, 581, 1);
        cutNote(x, 3, 0, 99, 60, 23, 998);
    }

    private static void cutTimes() {
        Due.promise(29, "cut");
        RoadThatSings x = new RoadThatSings();
        Due.tune(x, 704, 1, 704, 1, 704, 2);
        x.ask(3, 50);
        // PLACES 35, 70, 140: 35 is as far from 30 as from 40
        cutNote(x, 0, 0, 10, 10, 3);
        cutNote(x, 0, 1, 10, 10, 4);
        cutNote(x, 0, 2, 10, 10, 7);
        // PLACES 3, 7, 14 and SPACE 10: ends 10, 20, 30
        Due.tune(x, 0, 1, 0, 1, 0, 2);
        for (int note = 0; note < 3; note++) {
            cutNote(x, 1, note, 1, 10, 1, 0);
        }
        x.ask(3, 2000);
        Due.tune(x, 0, 16, 0, 16, 0, 16, 0, 16, 0, 16, 0, 16, 0, 16, 0, 16, 0, 16, 0, 16, 0, 16,
            0, 16);
        for (int note = 0; note < 12; note++) {
            cutNote(x, 2, note, 99, 10, 60, 0);
        }
        x.ask(3, 200);
        // PLACES 2252 and 2393: an end at 600, then 60 of SPACE 10, ends 1200, and so on
        Due.tune(x, 704, 16, 704, 1, 704, 1, 704, 1, 0, 1);
        for (int note = 0; note < 4; note++) {
            cutNote(x, 3, note, 10, 10, 60);
        }
        cutNote(x, 3, 4, 10, 10, 42);
        // the PLACE is 105.6, cut: as far from 100 as from 110
        x.ask(3, 50);
        Due.tune(x, 704, 3);
        cutNote(x, 4, 0, 10, 10, 10);
    }

    private static void cutRefused() {
        Due.promise(29, "cut");
        RoadThatSings x = new RoadThatSings();
        Due.tune(x, 704, 1);
        Due.due("no tune", x.cut(1, 0, 0, 3), -1);
        Due.due("no tune", x.cut(-1, 0, 1, 0), -1);
        Due.due("no note", x.cut(0, 1, 1, 0), -1);
        Due.due("no note", x.cut(0, -1, 1, 0), -1);
        Due.due("what ahead of speed", x.cut(0, 0, 0, 3), -5);
        Due.due("what", x.cut(0, 0, 1, -1), -5);
        Due.due("speed", x.cut(0, 0, 0, 0), -6);
        Due.due("speed", x.cut(0, 0, 100, 2), -6);
        Due.refused(x, -1, 4);
        Due.refused(x, -5, 2);
        Due.refused(x, -6, 2);
    }

    private static void lay() {
        Due.promise(30, "lay");
        RoadThatSings x = new RoadThatSings();
        x.stretch(2, 9, 9, 9);
        Due.tune(x, 704, 1, 0, 1, 9999, 1);
        Due.tune(x);
        Due.due("LENGTHS", x.lay(0, 10), 420);
        int[][] due = {{1, 10, 0, 14, 140}, {3, 10, 0, 14, 140}, {1, 4, 0, 35, 140}};
        Due.due("how many", x.status(0), 3);
        for (int i = 0; i < 3; i++) {
            for (int what = 0; what < 5; what++) {
                Due.due("stretchOf(" + i + ", " + what + ")", x.stretchOf(i, what), due[i][what]);
            }
        }
        Due.due("no tune", x.lay(2, 0), -1);
        Due.due("no tune", x.lay(-1, 1), -1);
        Due.due("speed", x.lay(0, 0), -6);
        Due.due("speed", x.lay(0, 100), -6);
        Due.due("refused: as it was", x.status(3), 420);
        Due.due("a tune of none", x.lay(1, 1), 0);
        Due.due("no stretches", x.status(0), 0);
        Due.due("LONG as it was", x.ask(0, 1), 2000);
        Due.refused(x, -1, 2);
        Due.refused(x, -6, 2);
    }

    private static void layAndShelves() {
        Due.promise(30, "lay");
        RoadThatSings x = new RoadThatSings();
        for (int i = 0; i < 4; i++) {
            x.stretch(6, 9, 9, 9);
            x.show(i, i);
        }
        Due.tune(x, 704, 1, 0, 1);
        x.lay(0, 10);
        int[] due = {0, 1, -1, -1};
        for (int i = 0; i < 4; i++) {
            Due.due("holds(" + i + ")", x.holds(i), due[i]);
        }
        Due.due("the new one in the shelf", x.says(1, 3), 14);
    }

    private static void fits() {
        Due.promise(31, "fits");
        RoadThatSings x = new RoadThatSings();
        Due.tune(x, 704, 1, 0, 1, 700, 1);
        Due.tune(x);
        Due.due("fits", x.fits(0, 10), 1);
        Due.due("a tune of none", x.fits(1, 10), 1);
        Due.tune(x, 704, 1);
        x.ask(2, 0);
        Due.due("just so", x.fits(2, 10), 1);
        x.ask(2, 5);
        Due.due("BORNE at most", x.fits(0, 10), 1);
        x.ask(2, 4);
        Due.due("above BORNE", x.fits(0, 10), 0);
        x.ask(2, 5);
        x.ask(0, 420);
        Due.due("LONG at most", x.fits(0, 10), 1);
        x.ask(0, 419);
        Due.due("above LONG", x.fits(0, 10), 0);
        x.ask(0, 2000);
        x.ask(1, 10);
        Due.due("NEAR at least", x.fits(0, 10), 1);
        x.ask(1, 11);
        Due.due("too near", x.fits(0, 10), 0);
        Due.tune(x, 0, 1);
        Due.due("a rest whatever NEAR is", x.fits(3, 10), 1);
        x.stretch(1, 1, 0, 60);
        Due.due("whatever the road is", x.fits(3, 10), 1);
        Due.due("it stays", x.status(0), 1);
        Due.due("no tune", x.fits(4, 0), -1);
        Due.due("no tune", x.fits(-1, 1), -1);
        Due.due("speed", x.fits(0, 0), -6);
        Due.due("speed", x.fits(0, 100), -6);
        Due.refused(x, -1, 2);
        Due.refused(x, -6, 2);
    }

    private static void can() {
        Due.promise(32, "can");
        RoadThatSings x = new RoadThatSings();
        Due.due("no tunes", x.can(10), 0);
        Due.tune(x, 704, 1);
        Due.tune(x, 9999, 1);
        Due.tune(x, 0, 16, 0, 16, 0, 16, 0, 16);
        Due.tune(x);
        Due.tune(x, 704, 16, 704, 16, 704, 16, 704, 16);
        Due.tune(x, 700, 1);
        Due.due("can", x.can(10), 0b101001);
        x.ask(0, 2400);
        Due.due("longer", x.can(10), 0b111101);
        Due.due("speed", x.can(0), -6);
        Due.due("speed", x.can(100), -6);
        Due.refused(x, -6, 2);
    }

    private static RoadThatSings twoCars(int share, int other, int borne) {
        RoadThatSings x = new RoadThatSings();
        x.car(10, 0, share);
        x.car(11, 0, other);
        x.ask(2, borne);
        Due.tune(x, 704, 1, 0, 1);
        return x;
    }

    private static void served() {
        Due.promise(33, "served");
        RoadThatSings x = twoCars(30, 40, 20);
        Due.due("the one", x.served(0, 10), 30);
        Due.due("the other", x.served(0, 11), 40);
        Due.due("none", x.served(0, 20), 0);
        // 774 is 99 off 704
        x.ask(2, 99);
        Due.due("both", x.served(0, 10), 70);
        x.ask(2, 98);
        Due.due("not both", x.served(0, 10), 30);
        Due.tune(x, 0, 1);
        Due.due("rests: all", x.served(1, 50), 70);
        Due.due("no tune", x.served(2, 0), -1);
        Due.due("no tune", x.served(-1, 1), -1);
        Due.due("speed", x.served(0, 0), -6);
        Due.due("speed", x.served(0, 100), -6);
        Due.refused(x, -1, 2);
        Due.refused(x, -6, 2);
    }

    private static void best() {
        Due.promise(34, "best");
        Due.due("the greater share", twoCars(30, 40, 20).best(0), 11);
        Due.due("of two the lesser", twoCars(40, 40, 20).best(0), 10);
        Due.due("both", twoCars(30, 40, 100).best(0), 10);
        RoadThatSings x = new RoadThatSings();
        Due.tune(x, 704, 1);
        Due.due("without cars", x.best(0), 1);
        x.car(99, 0, 1);
        // 69696 by 60 is 1161: for 1161 a SPACE of 60 is cut from 99 on
        x.ask(2, 0);
        Due.tune(x, 1161, 1);
        Due.due("the last", x.best(1), 99);
        Due.due("no tune", x.best(2), -1);
        Due.due("no tune", x.best(-1), -1);
        Due.refused(x, -1, 2);
    }

    private static void two() {
        Due.promise(35, "two");
        RoadThatSings x = new RoadThatSings();
        Due.tune(x, 704, 1, 0, 1, 0, 1, 9999, 1);
        Due.tune(x, 1408, 2, 0, 1, 500, 1, 0, 1);
        Due.tune(x, 704, 1);
        x.ask(2, 0);
        Due.due("two", x.two(0, 10, 1, 20), 2);
        Due.due("the other way about", x.two(1, 20, 0, 10), 2);
        Due.due("at the wrong speeds", x.two(0, 20, 1, 10), 1);
        x.ask(1, 11);
        Due.due("too near", x.two(0, 10, 1, 20), 1);
        x.ask(2, 90);
        Due.due("BORNE at most", x.two(0, 10, 1, 20), 2);
        x.ask(2, 89);
        Due.due("above BORNE", x.two(0, 10, 1, 20), 1);
        x.ask(2, 500);
        Due.due("a rest and a note never", x.two(0, 10, 1, 20), 2);
        x.ask(2, 0);
        Due.due("the same tune", x.two(2, 30, 2, 30), 1);
        Due.due("a space of 60", x.two(2, 60, 2, 60), 1);
        Due.due("a space of 61", x.two(2, 61, 2, 61), 0);
        Due.due("no tune", x.two(3, 0, 0, 0), -1);
        Due.due("no tune", x.two(0, 1, -1, 1), -1);
        Due.due("speed", x.two(0, 0, 1, 1), -6);
        Due.due("speed", x.two(0, 1, 1, 100), -6);
        Due.due("unlike many notes", x.two(0, 1, 2, 1), -6);
        Due.refused(x, -1, 2);
        Due.refused(x, -6, 3);
    }

    private static void brief() {
        Due.promise(36, "brief");
        RoadThatSings x = new RoadThatSings();
        Due.tune(x, 704, 1);
        Due.due("8 times 10", x.brief(0, 10), 80);
        Due.tune(x, 704, 1, 0, 1, 704, 2);
        Due.due("together", x.brief(1, 10), 80 + 80 + 150);
        Due.tune(x, 13, 1);
        x.ask(3, 50);
        Due.due("1 at least", x.brief(2, 1), 51);
        // of SPACE 9 two last 25, three 38
        Due.tune(x, 782, 1);
        Due.due("50 wanted", x.brief(3, 10), 18);
        x.ask(3, 51);
        Due.due("51 wanted", x.brief(3, 10), 27);
        x.ask(3, 2000);
        Due.tune(x, 0, 16);
        Due.due("as many as are wanted", x.brief(4, 99), 111520);
        // 3520 at SPEED 50 lasts a second, half of what 16 beats are due
        x.ask(3, 125);
        Due.due("with nothing to spare", x.brief(4, 50), 3520);
        Due.tune(x);
        Due.due("a tune of none", x.brief(5, 1), 0);
        Due.due("no tune", x.brief(6, 0), -1);
        Due.due("no tune", x.brief(-1, 1), -1);
        Due.due("speed", x.brief(0, 0), -6);
        Due.due("speed", x.brief(0, 100), -6);
        Due.refused(x, -1, 2);
        Due.refused(x, -6, 2);
    }

    private static void scale() {
        Due.promise(37, "scale");
        RoadThatSings x = new RoadThatSings();
        x.stretch(1, 10, 0, 1);
        x.stretch(5, 60, 60, 1);
        x.stretch(3, 10, 0, 1);
        x.stretch(2, 1, 0, 1);
        // 704 by b: 1000, 1600, 2000, 500, 1994, 70
        int[][] due = {{704, 0}, {440, 8}, {352, 0}, {1408, 0}, {353, 11}, {9999, 2}};
        for (int[] d : due) {
            Due.due("above " + d[0], x.scale(0, 10, d[0]), d[1]);
        }
        // 1408 by 967 is 1456, between 1414 and 1498
        Due.due("of several the least", x.scale(0, 20, 967), 6);
        int[] steps = {1000, 1059, 1122, 1189, 1260, 1335, 1414, 1498, 1587, 1682, 1782, 1888};
        x.stretch(1, 7, 0, 1);
        // 704 * 99 by 7 is 9956; 9956000 by b is a step or just above
        for (int i = 0; i < 12; i++) {
            Due.due("step " + i, x.scale(4, 99, 9956000 / steps[i]), i);
        }
        scaleSteps();
        Due.due("from far above: 139392000", x.scale(3, 99, 1), 1);
        Due.due("nothing left: 5000 by 9999", x.scale(1, 1, 9999), -1);
        Due.due("1 left: 5000 by 4999", x.scale(1, 1, 4999), 0);
        Due.due("a rest", x.scale(2, 10, 440), -1);
        Due.due("no stretch", x.scale(5, 0, 0), -11);
        Due.due("no stretch", x.scale(-1, 1, 1), -11);
        Due.due("speed", x.scale(0, 0, 1), -16);
        Due.due("speed", x.scale(0, 100, 1), -16);
        Due.due("pitch", x.scale(0, 1, 0), -16);
        Due.due("pitch", x.scale(0, 1, 10000), -16);
        Due.refused(x, -1, 2);
        Due.refused(x, -6, 4);
    }

    /** Each number from 1000 to 1999 above a BASE PITCH: 9956000 by b. */
    private static void scaleSteps() {
        int[] steps = {1000, 1059, 1122, 1189, 1260, 1335, 1414, 1498, 1587, 1682, 1782, 1888};
        RoadThatSings x = null;
        for (int b = 4979; b <= 9956; b++) {
            if (x == null || b % 400 == 0) {
                x = new RoadThatSings();
                x.stretch(1, 7, 0, 1);
            }
            int above = 9956000 / b;
            int step = 0;
            for (int i = 1; i < 12; i++) {
                if (Math.abs(steps[i] - above) < Math.abs(steps[step] - above)) {
                    step = i;
                }
            }
            Due.due("scale(0, 99, " + b + ")", x.scale(0, 99, b), step);
        }
    }

    private static void read() {
        Due.promise(38, "read");
        RoadThatSings x = new RoadThatSings();
        x.stretch(1, 10, 0, 14);
        x.car(10, 0, 0);
        x.car(20, 0, 0);
        Due.due("no tunes", x.read(0), -5);
        Due.due("no car ahead of no tunes", x.read(2), -1);
        Due.tune(x, 704, 1, 704, 1);
        Due.due("the only one", x.read(0), 0);
        Due.tune(x, 720, 1);
        Due.due("less than 999", x.read(0), 1);
        Due.tune(x, 710, 1);
        Due.due("the least", x.read(0), 2);
        Due.tune(x, 698, 1);
        Due.due("of several the first", x.read(0), 2);
        Due.tune(x, 1408, 1);
        Due.due("of the quicker car", x.read(1), 4);
        Due.tune(x);
        Due.due("a tune of none", x.read(0), 5);
        Due.due("no car", x.read(-1), -1);
        Due.refused(x, -1, 2);
        Due.refused(x, -5, 1);
    }

    private static void mirror() {
        Due.promise(39, "mirror");
        RoadThatSings x = new RoadThatSings();
        Due.due("none", x.mirror(), 0);
        x.stretch(1, 10, 0, 1);
        Due.due("one", x.mirror(), 0);
        x.stretch(0, 10, 5, 9);
        Due.due("alike", x.mirror(), 0);
        x.stretch(3, 10, 0, 1);
        Due.due("a groove and a rest", x.mirror(), 1);
        x.stretch(5, 5, 5, 1);
        Due.due("(0, 3) alike, (1, 2) not", x.mirror(), 1);
        x.stretch(2, 5, 5, 1);
        Due.due("(0, 4) and (1, 3)", x.mirror(), 1);
        // by 94 and 95 alike at SPEED 10 alone, by 108 and 109 unlike at 10, but not at 9 or 11
        x.till(0);
        x.stretch(5, 60, 34, 1);
        x.stretch(5, 60, 35, 1);
        Due.due("alike by speed 10", x.mirror(), 0);
        x.till(0);
        x.stretch(5, 60, 48, 1);
        x.stretch(5, 60, 49, 1);
        Due.due("unlike by speed 10", x.mirror(), 1);
    }

    private static void warns() {
        Due.promise(40, "warns");
        RoadThatSings x = new RoadThatSings();
        Due.due("no stretch", x.warns(0), -1);
        x.stretch(3, 10, 0, 1);
        Due.due("a rest", x.warns(0), 1);
        Due.due("a rest", x.warns(1), -1);
        x.stretch(1, 10, 0, 1);
        Due.due("just", x.warns(704), 10);
        Due.due("not quite", x.warns(705), 11);
        Due.due("the last", x.warns(6969), 99);
        Due.due("never", x.warns(6970), -1);
        x.stretch(2, 5, 5, 1);
        Due.due("the pair", x.warns(704), 5);
        x.stretch(1, 1, 0, 1);
        Due.due("most", x.warns(99999), -1);
        x.stretch(2, 1, 0, 1);
        Due.due("most", x.warns(99999), 72);
        Due.due("wrong", x.warns(-1), -16);
        Due.due("wrong", x.warns(100000), -16);
        Due.refused(x, -6, 2);
    }

    private static void worn() {
        Due.promise(41, "worn");
        int[] due = {50, 50, 50, 0, -1, 40, 50};
        for (int kind = 0; kind < 7; kind++) {
            RoadThatSings x = new RoadThatSings();
            Due.due("none", x.worn(), 0);
            x.stretch(kind, 9, 4, 3);
            Due.due("kind " + kind, x.worn(), due[kind]);
        }
        RoadThatSings x = new RoadThatSings();
        x.stretch(5, 9, 9, 1);
        x.stretch(0, 9, 9, 1);
        x.stretch(3, 9, 9, 1);
        Due.due("the loudest", x.worn(), 50);
    }

    private static void day() {
        Due.promise(42, "day");
        RoadThatSings x = new RoadThatSings();
        x.stretch(1, 10, 0, 14);
        Due.tune(x, 704, 1);
        x.car(10, 0, 20);
        x.car(60, 0, 0);
        x.car(20, 0, 30);
        x.car(10, 0, 25);
        for (int n = 1; n <= 200; n += 199) {
            int seed = x.status(5);
            int heard = 0;
            for (int i = 0; i < n; i++) {
                seed = seed * 1103515245 + 12345;
                int drawn = (seed >>> 16) % 100;
                if (drawn < 20 || drawn >= 50 && drawn < 75) {
                    heard++;
                }
            }
            Due.due("day of " + n, x.day(0, n), heard);
            Due.due("SEED", x.status(5), seed);
        }
        Due.tune(x, 1408, 1);
        x.seed(-77);
        int seed = -77;
        int heard = 0;
        for (int i = 0; i < 150; i++) {
            seed = seed * 1103515245 + 12345;
            int drawn = (seed >>> 16) % 100;
            heard += drawn >= 20 && drawn < 50 ? 1 : 0;
        }
        Due.due("the quicker car", x.day(1, 150), heard);
        x = new RoadThatSings();
        x.stretch(1, 10, 0, 14);
        x.car(10, 0, 100);
        Due.tune(x, 700, 1);
        x.ask(2, 5);
        Due.due("BORNE at most", x.day(0, 9), 9);
        x.ask(2, 4);
        Due.due("above BORNE", x.day(0, 9), 0);
    }

    private static void dayRefused() {
        Due.promise(42, "day");
        RoadThatSings x = new RoadThatSings();
        Due.tune(x);
        Due.due("no cars", x.day(0, 2), 0);
        Due.due("draws all the same", x.status(5),
            (1103515245 + 12345) * 1103515245 + 12345);
        x.seed(5);
        Due.due("no tune", x.day(1, 0), -1);
        Due.due("no tune", x.day(-1, 1), -1);
        Due.due("none", x.day(0, 0), -6);
        Due.due("too many", x.day(0, 201), -6);
        Due.due("refused: no draw", x.status(5), 5);
        Due.refused(x, -1, 2);
        Due.refused(x, -6, 2);
    }
}
