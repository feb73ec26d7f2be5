/** The sentences on what is heard and on LAWFUL that name an edge: promises 20 to 28. */
public final class HeardEdgesTest {
    private HeardEdgesTest() {
    }

    public static void main(String[] args) {
        humCut();
        humOfKinds();
        humOfPairAndSlant();
        lasts();
        loud();
        offHeldAndCut();
        offOfRests();
        off();
        noteByStretch();
        noteWithoutStretch();
        worst();
        late();
        lateOfCutLengths();
        hearsByBorne();
        hears();
        lawfulByNear();
        lawfulByLong();
        wrongByTheFirst();
        judge();
        wheelsMeet();
        meet();
        Due.end("HeardEdgesTest");
    }

    private static final String HUM = "HUM of a STRETCH at a SPEED v, in tenths of a blow a second: "
        + "704 times v by SPACE, cut; PAIR: of SPACE and OTHER together, twice that; SLANT: as "
        + "PAIR, and its HUM from the left is half of it (cut): the lesser is heard; REST: 0; "
        + "GROOVE: as EVEN.";

    private static void humCut() {
        Due.sentence(0, HUM);
        // 704 by 60 is 11.7; 15 times 704 by 60 is 176 just so
        Calls.fresh().calls("stretch(1, 60, 0, 1) hum(0, 1) = 11 hum(0, 14) = 164 hum(0, 15) = 176"
            + " hum(0, 16) = 187 hum(0, 99) = 1161 stretch(1, 1, 60, 1) hum(1, 1) = 704"
            + " hum(1, 99) = 69696");
        Due.sentence(20, "HUM of a STRETCH at a SPEED.");
        Calls.full().calls("hum(0, 0) = -6 hum(0, 1) = 704 hum(0, 99) = 69696 hum(0, 100) = -6"
            + " hum(15, 1) = 44 hum(16, 1) = -1 hum(-1, 1) = -1 hum(15, 99) = 4356");
    }

    private static void humOfKinds() {
        Due.sentence(0, HUM);
        // 7 and 5: 100.5, and 58.6 of both together
        int[] due = {100, 100, 116, 0, 100, 58, 100};
        int[] dueAlone = {100, 100, 200, 0, 100, 100, 100};
        for (int kind = 0; kind < 7; kind++) {
            Calls.fresh().calls("stretch(" + kind + ", 7, 5, 1) hum(0, 1) = " + due[kind]
                + " stretch(" + kind + ", 7, 0, 60) hum(1, 1) = " + dueAlone[kind]);
        }
        Calls.fresh().calls("stretch(3, 1, 60, 60) hum(0, 1) = 0 hum(0, 99) = 0");
    }

    private static void humOfPairAndSlant() {
        Due.sentence(0, "HUM of a PAIR is twice what is cut, of a SLANT half of that.");
        // 704 by 7 is 100.6: twice uncut would be 201
        Calls.fresh().calls("stretch(2, 4, 3, 1) hum(0, 1) = 200 stretch(5, 4, 3, 1) hum(1, 1) = 100"
            + " stretch(2, 60, 60, 1) hum(2, 1) = 10 stretch(5, 60, 60, 1) hum(3, 1) = 5"
            + " stretch(2, 1, 0, 1) hum(4, 99) = 139392 stretch(5, 1, 0, 1) hum(5, 99) = 69696");
    }

    private static void lasts() {
        Due.sentence(0, "LASTS: its LENGTH times 10000 by (704 times v), cut: thousandths of a "
            + "second.");
        // 44 times 16 is 704: ten seconds just so
        Calls.fresh().calls("stretch(1, 44, 0, 16) lasts(0, 1) = 10000 lasts(0, 2) = 5000"
            + " lasts(0, 99) = 101 stretch(1, 1, 0, 1) lasts(1, 1) = 14 lasts(1, 14) = 1"
            + " lasts(1, 15) = 0 lasts(1, 99) = 0 stretch(6, 60, 0, 60) lasts(2, 1) = 0"
            + " stretch(2, 60, 60, 60) lasts(3, 1) = 102272 stretch(3, 60, 60, 60)"
            + " lasts(4, 1) = 51136");
        Due.sentence(21, "LASTS.");
        Calls.full().calls("lasts(0, 0) = -6 lasts(0, 1) = 28 lasts(15, 99) = 4 lasts(15, 100) = -6"
            + " lasts(16, 1) = -1 lasts(-1, 1) = -1");
    }

    private static void loud() {
        Due.sentence(0, "LOUD: 10; DEEP: 15; REST: 0; SLANT: 8; behind y years (0 to 50) y less by "
            + "5, cut (0 at least).");
        int[] whenNew = {10, 10, 10, 0, 15, 8, 10};
        Calls x = Calls.fresh();
        for (int kind = 0; kind < 7; kind++) {
            x.calls("stretch(" + kind + ", 9, 9, 9)");
            for (int y = 0; y <= 50; y++) {
                x.calls("loud(" + kind + ", " + y + ") = " + Math.max(0, whenNew[kind] - y / 5));
            }
        }
        x.calls("loud(5, 39) = 1 loud(5, 40) = 0 loud(5, 50) = 0 loud(0, 49) = 1 loud(0, 50) = 0"
            + " loud(4, 50) = 5 loud(3, 0) = 0 loud(3, 50) = 0");
        Due.sentence(22, "LOUD behind y years.");
        Calls.full().calls("loud(0, -1) = -6 loud(0, 0) = 10 loud(15, 4) = 10 loud(15, 5) = 9"
            + " loud(15, 50) = 0 loud(15, 51) = -6 loud(16, 0) = -1 loud(-1, 0) = -1");
    }

    private static final String OFF = "OFF of two HUMS, heard h and wanted w: thousandths: the "
        + "difference times 1000 by w, cut (999 at most); a rest wanted: 0 if h is 0, else 999; one "
        + "heard where w is above 0: 999 if h is 0.";

    private static void offHeldAndCut() {
        Due.sentence(0, OFF);
        Calls.fresh().calls("off(1000, 1000) = 0 off(1001, 1000) = 1 off(999, 1000) = 1"
            + " off(1998, 1000) = 998 off(1999, 1000) = 999 off(2000, 1000) = 999"
            + " off(2001, 1000) = 999 off(99999, 1) = 999 off(2, 1000) = 998 off(1, 1000) = 999"
            + " off(1, 99999) = 999 off(4, 3) = 333 off(2, 3) = 333 off(5, 3) = 666 off(6, 3) = 999"
            + " off(1001, 1001) = 0 off(1002, 1001) = 0 off(1003, 1001) = 1 off(99998, 99999) = 0"
            + " off(99899, 99999) = 1");
    }

    private static void offOfRests() {
        Due.sentence(0, OFF);
        Calls.fresh().calls("off(0, 0) = 0 off(1, 0) = 999 off(99999, 0) = 999 off(0, 1) = 999"
            + " off(0, 99999) = 999 off(1, 1) = 0");
    }

    private static void off() {
        Due.sentence(23, "OFF of two HUMS (0 to 99999 each).");
        Calls.fresh().calls("off(-1, 5) = -6 off(0, 5) = 999 off(99999, 99999) = 0"
            + " off(100000, 99999) = -6 off(5, -1) = -6 off(5, 99999) = 999 off(5, 100000) = -6"
            + " off(-1, 0) = -6 off(0, -1) = -6 status(16) = 6");
    }

    private static void noteByStretch() {
        Due.sentence(0, "A CAR hears a TUNE on THE ROAD: note i by STRETCH i at its SPEED (no "
            + "STRETCH: 999 OFF).");
        Calls.fresh().tune(704, 1, 352, 1, 0, 1).calls("stretch(1, 10, 0, 1) car(10, 0, 0)"
            + " car(5, 0, 0) note(0, 0, 0) = 0 note(1, 0, 0) = 500 note(0, 0, 1) = 999"
            + " stretch(1, 20, 0, 1) note(0, 0, 1) = 0 note(1, 0, 1) = 500 note(0, 0, 2) = 999"
            + " stretch(3, 20, 0, 1) note(0, 0, 2) = 0 note(1, 0, 2) = 0 till(1) note(0, 0, 0) = 0"
            + " note(0, 0, 1) = 999 note(0, 0, 2) = 999");
        Due.sentence(24, "OFF of a note of a TUNE for a CAR.");
        Calls.fresh().tune(704, 1, 704, 1).calls("car(10, 0, 0) stretch(1, 10, 0, 1)"
            + " stretch(0, 10, 0, 1) note(0, 0, -1) = -1 note(0, 0, 0) = 0 note(0, 0, 1) = 0"
            + " note(0, 0, 2) = -1 note(1, 0, 0) = -1 note(-1, 0, 0) = -1 note(0, 1, 0) = -1"
            + " note(0, -1, 0) = -1 stretch(0, 11, 0, 1) note(0, 0, 2) = -1");
    }

    private static void noteWithoutStretch() {
        Due.sentence(0, "A note without a STRETCH is 999 OFF, a rest, too, and LASTS nothing.");
        // due 0, 100, 200, 300; begins 0, 100, and 100 for each of the others
        Calls.fresh().tune(0, 2, 0, 2, 704, 2, 0, 2).calls("ask(3, 50) car(10, 0, 0)"
            + " note(0, 0, 0) = 999 hears(0, 0, 0) = 999 hears(0, 0, 1) = 300 ask(2, 500)"
            + " hears(0, 0, 2) = 0 stretch(3, 44, 0, 16) lasts(0, 10) = 1000 till(0)"
            + " stretch(3, 10, 0, 7) lasts(0, 10) = 99 note(0, 0, 0) = 0 note(0, 0, 1) = 999"
            + " note(0, 0, 2) = 999 note(0, 0, 3) = 999 hears(0, 0, 1) = 201");
    }

    private static void worst() {
        Due.sentence(0, "WORST: the greatest OFF of all its notes.");
        // 704 for 700 is 5 off, for 690 20, for 720 22
        Calls.fresh().tune(700, 1, 690, 1, 720, 1).tune(720, 1, 700, 1, 690, 1)
            .tune(690, 1, 720, 1, 700, 1).tune(704, 1, 704, 1, 704, 1).tune()
            .calls("car(10, 0, 0) stretch(1, 10, 0, 1) stretch(1, 10, 0, 1) stretch(1, 10, 0, 1)"
                + " hears(0, 0, 0) = 22 hears(0, 1, 0) = 22 hears(0, 2, 0) = 22 hears(0, 3, 0) = 0"
                + " hears(0, 4, 0) = 0 stretch(1, 1, 0, 1) hears(0, 3, 0) = 0 till(2)"
                + " hears(0, 3, 0) = 999 hears(0, 4, 0) = 0 till(0) hears(0, 4, 0) = 0");
    }

    private static final String LATE = "LATE: the greatest difference of when a note begins (sums of "
        + "LASTS of STRETCHES ahead) from when it should (BEATS ahead times TEMPO).";

    private static void late() {
        Due.sentence(0, LATE);
        // the first note begins when it should, whatever its STRETCH lasts
        Calls.fresh().tune(704, 16).tune().tune(704, 1, 704, 16).calls("car(10, 0, 0)"
            + " stretch(1, 44, 0, 16) hears(0, 0, 1) = 0 hears(0, 1, 1) = 0 lasts(0, 10) = 1000"
            + " ask(3, 1000) hears(0, 2, 1) = 0 ask(3, 999) hears(0, 2, 1) = 1 ask(3, 1001)"
            + " hears(0, 2, 1) = 1 stretch(1, 60, 0, 60) hears(0, 2, 1) = 1");
        // begins 0, 1000, 2000: too late by 500 and then by 0, too early by 500 and then by 0
        Calls.fresh().tune(704, 1, 704, 3, 704, 1).tune(704, 3, 704, 1, 704, 1)
            .calls("car(10, 0, 0) stretch(1, 44, 0, 16) stretch(3, 44, 0, 16) ask(3, 500)"
                + " hears(0, 0, 1) = 500 hears(0, 1, 1) = 500 stretch(1, 44, 0, 16)"
                + " hears(0, 0, 1) = 500");
    }

    private static void lateOfCutLengths() {
        Due.sentence(0, LATE);
        // each lasts 14 of 14.2: five 70, not 71
        Calls x = Calls.fresh().tune(704, 1, 704, 1, 704, 1, 704, 1, 704, 1, 704, 1)
            .calls("car(1, 0, 0) ask(3, 50)");
        for (int i = 0; i < 6; i++) {
            x.calls("stretch(1, 1, 0, 1)");
        }
        x.calls("hears(0, 0, 1) = 180");
        long[] notes = new long[24];
        for (int i = 0; i < 24; i += 2) {
            notes[i + 1] = 16;
        }
        Calls.fresh().tune(notes).calls("car(1, 0, 0) ask(3, 2000) hears(0, 0, 1) = 352000");
    }

    private static void hearsByBorne() {
        Due.sentence(0, "It HEARS it, if WORST is BORNE at most.");
        // 704 is 5 off 700, 500 off 1410, 501 off 1411
        Calls.fresh().tune(704, 1).tune(700, 1).tune(1410, 1).tune(1411, 1).tune()
            .calls("car(10, 0, 0) stretch(1, 10, 0, 1) hears(0, 1, 0) = 5 hears(0, 2, 0) = 500"
                + " hears(0, 3, 0) = 501 ask(2, 0) hears(0, 0, 2) = 1 hears(0, 1, 2) = 0"
                + " hears(0, 4, 2) = 1 ask(2, 4) hears(0, 1, 2) = 0 ask(2, 5) hears(0, 1, 2) = 1"
                + " ask(2, 6) hears(0, 1, 2) = 1 ask(2, 499) hears(0, 2, 2) = 0 ask(2, 500)"
                + " hears(0, 2, 2) = 1 hears(0, 3, 2) = 0");
    }

    private static void hears() {
        Due.sentence(25, "WORST (what 0), LATE (1), 1 if it HEARS it (2).");
        Calls.fresh().tune(704, 1, 704, 1).calls("car(10, 0, 0) stretch(1, 10, 0, 1)"
            + " stretch(1, 10, 0, 1) hears(0, 0, -1) = -5 hears(0, 0, 0) = 0 hears(0, 0, 1) = 186"
            + " hears(0, 0, 2) = 1 hears(0, 0, 3) = -5 hears(1, 0, 0) = -1 hears(0, 1, 0) = -1"
            + " hears(-1, 0, 0) = -1 hears(0, -1, 0) = -1 till(1) hears(0, 0, 0) = 999"
            + " hears(0, 0, 2) = 0");
    }

    private static final String LAWFUL = "THE ROAD is LAWFUL if none of these holds, else WRONG by "
        + "the first: 1 a STRETCH's SPACE (of PAIR, SLANT OTHER, too, unless 0; of TOLD, REST not) "
        + "is below NEAR; 2 all LENGTHS together are above LONG.";

    private static void lawfulByNear() {
        Due.sentence(0, LAWFUL);
        for (int near = 2; near <= 30; near += 7) {
            for (int kind = 0; kind < 7; kind++) {
                boolean spaceCounts = kind != 3 && kind != 6;
                boolean otherCounts = kind == 2 || kind == 5;
                spaces(near, kind, near, near, false);
                spaces(near, kind, near - 1, near, spaceCounts);
                spaces(near, kind, near + 1, near + 1, false);
                spaces(near, kind, near, near - 1, otherCounts);
                spaces(near, kind, near, 1, otherCounts);
                spaces(near, kind, near, 0, false);
                spaces(near, kind, 1, 0, spaceCounts);
            }
        }
        Calls.fresh().calls("ask(1, 30) wrong() = 0 judge() = -1");
    }

    private static void spaces(int near, int kind, int space, int other, boolean wrong) {
        Calls.fresh().calls("ask(1, " + near + ") stretch(3, 1, 0, 1) stretch(" + kind + ", " + space
            + ", " + other + ", 1) wrong() = " + (wrong ? 1 : 0) + " judge() = " + (wrong ? 1 : -1));
    }

    private static void lawfulByLong() {
        Due.sentence(0, LAWFUL);
        Calls.fresh().calls("wrong() = 0 ask(0, 1) wrong() = 0 stretch(6, 5, 0, 60) wrong() = 0"
            + " stretch(6, 5, 1, 1) wrong() = 0 judge() = -1 stretch(6, 5, 1, 1) wrong() = 2"
            + " judge() = 2 ask(0, 2) wrong() = 0 judge() = -1");
        // 7200 and 2799: 9999
        Calls.fresh().calls("stretch(2, 60, 60, 60) stretch(1, 50, 0, 55) stretch(1, 49, 0, 1)"
            + " status(3) = 9999 ask(0, 9999) wrong() = 0 judge() = -1 ask(0, 9998) wrong() = 2"
            + " judge() = 2 ask(0, 9950) judge() = 2 ask(0, 9949) judge() = 1 ask(0, 7200)"
            + " judge() = 1 ask(0, 7199) judge() = 0 ask(0, 9999) stretch(6, 5, 1, 1) wrong() = 2"
            + " judge() = 3");
    }

    private static void wrongByTheFirst() {
        Due.sentence(26, "By what THE ROAD is WRONG, 0: it is LAWFUL.");
        Calls.fresh().calls("stretch(1, 4, 0, 60) stretch(1, 4, 0, 1) stretch(1, 3, 0, 1) ask(0, 100)"
            + " wrong() = 1 judge() = 2 ask(1, 3) wrong() = 2 judge() = 0 ask(0, 240) wrong() = 2"
            + " judge() = 1 ask(0, 244) judge() = 2 ask(0, 247) wrong() = 0 judge() = -1 ask(1, 4)"
            + " wrong() = 1 judge() = 2 till(2) wrong() = 0 judge() = -1");
    }

    private static void judge() {
        Due.sentence(27, "The first STRETCH by which it is so (of 2 the first whose end is beyond "
            + "LONG); NONE.");
        Calls.full().calls("ask(1, 30) judge() = 0 ask(1, 2) judge() = 0 till(1) judge() = 0 till(0)"
            + " judge() = -1");
        // the last of 16
        Calls x = Calls.fresh();
        for (int i = 0; i < 15; i++) {
            x.calls("stretch(1, 4, 0, 1)");
        }
        x.calls("judge() = -1 stretch(1, 3, 0, 1) judge() = 15 ask(1, 3) judge() = -1 ask(0, 63)"
            + " judge() = -1 ask(0, 62) judge() = 15 ask(0, 60) judge() = 15 ask(0, 59) judge() = 14"
            + " ask(0, 4) judge() = 1 ask(0, 3) judge() = 0");
    }

    private static void wheelsMeet() {
        Due.sentence(0, "Wheels MEET on a STRETCH by a BASE, if BASE is a multiple of its SPACE "
            + "(PAIR, SLANT: of SPACE and OTHER together; REST: never).");
        // 12 and 9: 21 together
        for (int kind = 0; kind < 7; kind++) {
            int of = kind == 2 || kind == 5 ? 21 : 12;
            Calls x = Calls.fresh().calls("stretch(" + kind + ", 12, 9, 5)");
            for (int base = 0; base <= 84; base++) {
                x.calls("meet(" + base + ") = " + (kind != 3 && base % of == 0 ? 1 : 0));
            }
        }
        Calls.fresh().calls("stretch(2, 60, 60, 1) stretch(5, 60, 0, 1) meet(119) = 0 meet(120) = 3"
            + " meet(121) = 0 meet(60) = 2 meet(960) = 3 meet(999) = 0");
        Due.sentence(0, "BASE 0 is a multiple of each SPACE; of a TOLD one it is by its SPACE.");
        Calls.fresh().calls("stretch(6, 8, 5, 1) stretch(6, 5, 0, 1) stretch(1, 60, 0, 1)"
            + " stretch(3, 1, 1, 1) meet(0) = 7 meet(8) = 1 meet(5) = 2 meet(40) = 3 meet(1) = 0");
    }

    private static void meet() {
        Due.sentence(28, "STRETCHES (bits) on which wheels MEET by a BASE (0 to 999).");
        Calls x = Calls.fresh().calls("meet(-1) = -6 meet(0) = 0 meet(999) = 0 meet(1000) = -6");
        for (int i = 0; i < 16; i++) {
            x.calls("stretch(1, " + (i == 0 ? 37 : i == 15 ? 27 : 50) + ", 0, 1)");
        }
        x.calls("meet(999) = 32769 meet(37) = 1 meet(27) = 32768 meet(1) = 0 meet(0) = 65535"
            + " meet(1000) = -6 meet(-1) = -6 till(15) meet(999) = 1");
        Calls.fresh().calls("stretch(1, 1, 0, 1) stretch(2, 1, 0, 1) stretch(2, 1, 1, 1) meet(0) = 7"
            + " meet(1) = 3 meet(2) = 7 meet(999) = 3 meet(998) = 7");
    }
}
