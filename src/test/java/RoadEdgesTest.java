/** The sentences on THE ROAD, STRETCHES, CARS and TUNES that name an edge: promises 9 to 17. */
public final class RoadEdgesTest {
    private RoadEdgesTest() {
    }

    public static void main(String[] args) {
        calls();
        asked();
        stretchNumbers();
        measures();
        kindsUnderKinds();
        lengths();
        carNumbers();
        shares();
        tuneNumbers();
        notes();
        stretch();
        stretchesUntil();
        stretchesOfFullRow();
        stretchesRoom();
        till();
        stretchOf();
        car();
        tune();
        noteOf();
        ask();
        Due.end("RoadEdgesTest");
    }

    private static void calls() {
        Due.sentence(0, "An object is used for at most 512 calls after it has been made; what later "
            + "calls answer is free.");
        Calls x = Calls.fresh();
        for (int i = 0; i < 255; i++) {
            x.calls("till(1) = -6 seed(" + i + ") = " + (i == 0 ? 1 : i - 1));
        }
        x.calls("status(16) = 255 status(5) = 254");
    }

    private static void asked() {
        Due.sentence(0, "Lengths are in quarter inches. THE ROAD has LONG (1 to 9999; 2000 at "
            + "first), NEAR (2 to 30: how near grooves may lie; 4 at first), BORNE (0 to 500 "
            + "thousandths: how far off; 20 at first), TEMPO (50 to 2000 thousandths of a second a "
            + "beat; 200 at first).");
        int[][] bounds = {{1, 9999, 2000}, {2, 30, 4}, {0, 500, 20}, {50, 2000, 200}};
        for (int what = 0; what < 4; what++) {
            int least = bounds[what][0];
            int most = bounds[what][1];
            String ask = " ask(" + what + ", ";
            Calls.fresh().calls(ask + (least - 1) + ") = -6" + ask + (most + 1) + ") = -6" + ask
                + least + ") = " + bounds[what][2] + ask + (least - 1) + ") = -6" + ask + most
                + ") = " + least + ask + (most + 1) + ") = -6" + ask + "MAX) = -6" + ask
                + "MIN) = -6" + ask + least + ") = " + most);
        }
    }

    private static void stretchNumbers() {
        Due.sentence(0, "STRETCHES have numbers, from 0 on, 16 at most, one behind the other, each "
            + "of a KIND:");
        Calls x = Calls.fresh();
        for (int i = 0; i < 16; i++) {
            x.calls("stretch(0, " + (i + 1) + ", 0, 1) = " + i);
        }
        x.calls("stretch(0, 1, 0, 1) = -7 status(0) = 16 stretchOf(15, 1) = 16 stretchOf(16, 1) = -5"
            + " till(15) = 15 stretch(0, 60, 0, 1) = 15 stretch(0, 1, 0, 1) = -7"
            + " stretchOf(15, 1) = 60 stretchOf(14, 1) = 15 till(0) = 0 stretch(0, 9, 0, 1) = 0"
            + " stretch(0, 8, 0, 1) = 1 stretchOf(0, 1) = 9 stretchOf(1, 1) = 8");
    }

    private static void measures() {
        Due.sentence(0, "with SPACE (1 to 60), OTHER (0 to 60), TIMES (1 to 60).");
        for (int kind = 0; kind < 7; kind++) {
            String made = " stretch(" + kind + ", ";
            Calls.fresh().calls(made + "0, 0, 1) = -6" + made + "1, 0, 1) = 0" + made
                + "60, 0, 1) = 1" + made + "61, 0, 1) = -6" + made + "1, -1, 1) = -6" + made
                + "1, 60, 1) = 2" + made + "1, 61, 1) = -6" + made + "1, 0, 0) = -6" + made
                + "1, 0, 60) = 3" + made + "1, 0, 61) = -6" + made + "60, 60, 60) = 4" + made
                + "-1, 0, 1) = -6" + made + "1, 0, -1) = -6 status(0) = 5 stretchOf(1, 1) = 60"
                + " stretchOf(2, 2) = 60 stretchOf(3, 3) = 60 stretchOf(0, 2) = 0");
        }
    }

    private static void kindsUnderKinds() {
        Due.sentence(0, "0 GROOVE; 1 EVEN, 3 REST, 6 TOLD, each under GROOVE; 2 PAIR, 4 DEEP, each "
            + "under EVEN; 5 SLANT, under PAIR;");
        int[] above = {-1, 0, 1, 0, 1, 2, 0};
        for (int kind = 0; kind < 7; kind++) {
            Calls x = Calls.fresh().calls("stretch(" + kind + ", 9, 9, 9) = 0 stretchOf(0, 0) = "
                + kind + " show(0, 0)");
            boolean[] under = new boolean[7];
            for (int k = kind; k != -1; k = above[k]) {
                under[k] = true;
            }
            for (int k = 0; k < 7; k++) {
                Due.holds("a " + kind + " is a " + k, (x.ask("says", 0, k) != -2) == under[k]);
            }
        }
        Calls.fresh().calls("stretch(-1, 1, 0, 1) = -1 stretch(7, 1, 0, 1) = -1 status(0) = 0");
    }

    private static void lengths() {
        Due.sentence(0, "Its LENGTH: TIMES times SPACE; PAIR, SLANT: TIMES times SPACE and OTHER "
            + "together. TOLD: TIMES times OTHER, but SPACE counts for what is heard.");
        for (int kind = 0; kind < 7; kind++) {
            boolean both = kind == 2 || kind == 5;
            boolean told = kind == 6;
            int all = 0;
            Calls x = Calls.fresh();
            int[][] measures = {{1, 0, 1}, {1, 60, 60}, {60, 0, 60}, {60, 60, 1}, {60, 60, 60}};
            for (int i = 0; i < measures.length; i++) {
                int[] m = measures[i];
                int once = told ? m[1] : m[0] + (both ? m[1] : 0);
                all += once * m[2];
                x.calls("stretch(" + kind + ", " + m[0] + ", " + m[1] + ", " + m[2] + ") = " + i
                    + " stretchOf(" + i + ", 4) = " + once * m[2] + " status(3) = " + all);
            }
        }
        Calls.fresh().calls("stretch(6, 60, 0, 60) stretch(6, 1, 60, 60) stretchOf(0, 4) = 0"
            + " stretchOf(1, 4) = 3600 hum(0, 60) = 704 hum(1, 1) = 704 lasts(0, 60) = 0");
    }

    private static void carNumbers() {
        Due.sentence(0, "CARS have numbers, from 0 on, 6 at most: SPEED (1 to 99 miles an hour), "
            + "BASE (0 to 999: from front to back wheels), SHARE (0 to 100: hundredths; of all CARS "
            + "together 100 at most).");
        Calls.fresh().calls("car(0, 0, 0) = -6 car(1, 0, 0) = 0 car(99, 0, 0) = 1"
            + " car(100, 0, 0) = -6 car(1, -1, 0) = -6 car(1, 999, 0) = 2 car(1, 1000, 0) = -6"
            + " car(1, 0, -1) = -6 car(1, 0, 100) = 3 car(1, 0, 101) = -6 car(2, 3, 0) = 4"
            + " car(5, 6, 0) = 5 car(1, 0, 0) = -7 status(1) = 6 carOf(5, 0) = 5 carOf(5, 1) = 6"
            + " carOf(1, 0) = 99 carOf(2, 1) = 999 carOf(3, 2) = 100 carOf(6, 0) = -5");
    }

    private static void shares() {
        Due.sentence(0, "of all CARS together 100 at most");
        Calls.fresh().calls("car(1, 0, 101) = -6 car(1, 0, 99) = 0 car(1, 0, 2) = -6 status(4) = 99"
            + " car(1, 0, 1) = 1 status(4) = 100 car(1, 0, 1) = -6 car(1, 0, 0) = 2 status(4) = 100");
        Calls.fresh().calls("car(1, 0, 50) car(1, 0, 51) = -6 car(1, 0, 50) = 1 car(1, 0, MAX) = -6"
            + " car(1, 0, MIN) = -6 status(4) = 100");
    }

    private static void tuneNumbers() {
        Due.sentence(0, "TUNES have numbers, from 0 on, 6 at most: up to 12 notes, each a PITCH (0: "
            + "a rest; 1 to 9999 tenths of a blow a second) and BEATS (1 to 16).");
        Calls x = Calls.fresh().calls("row(0, 0, 26)");
        for (int i = 1; i < 26; i += 2) {
            x.calls("set(0, " + i + ", " + (i / 2 + 1) + ")");
        }
        x.calls("tune(0, 0) = 0 tune(0, 12) = 1 tune(0, 13) = -6 tune(0, 14) = -5 status(2) = 2"
            + " noteOf(0, -1, 0) = 0 noteOf(0, 0, 0) = -5 noteOf(1, -1, 0) = 12 noteOf(1, 11, 1) = 12"
            + " noteOf(1, 12, 0) = -5 tune(0, 1) = 2 tune(0, 11) = 3 tune(0, 1) = 4 tune(0, 2) = 5"
            + " tune(0, 1) = -7 tune(0, 0) = -7 status(2) = 6 noteOf(3, -1, 0) = 11"
            + " noteOf(5, -1, 0) = 2 noteOf(5, 1, 1) = 2 noteOf(6, -1, 0) = -5");
    }

    private static void notes() {
        Due.sentence(0, "each a PITCH (0: a rest; 1 to 9999 tenths of a blow a second) and BEATS (1 "
            + "to 16).");
        long[][] may = {{0, 1}, {0, 16}, {1, 1}, {9999, 16}};
        for (long[] n : may) {
            Calls.fresh().row(0, 2, n).calls("tune(0, 1) = 0 noteOf(0, 0, 0) = " + n[0]
                + " noteOf(0, 0, 1) = " + n[1]);
            Calls.fresh().row(0, 2, 5, 5, n[0], n[1]).calls("tune(0, 2) = 0");
        }
        long[][] never = {{-1, 1}, {10000, 1}, {0, 0}, {0, 17}, {1, 0}, {9999, 17}, {1, -1}};
        for (long[] n : never) {
            Calls.fresh().row(0, 2, n).calls("tune(0, 1) = -6 status(2) = 0 tune(0, 0) = 0");
            Calls.fresh().row(0, 2, 5, 5, n[0], n[1]).calls("tune(0, 2) = -6 tune(0, 1) = 0");
        }
    }

    private static void stretch() {
        Due.sentence(9, "A STRETCH of a KIND (0 to 6): the number.");
        Calls.fresh().calls("stretch(-1, 1, 0, 1) = -1 stretch(0, 1, 0, 1) = 0"
            + " stretch(6, 1, 0, 1) = 1 stretch(7, 1, 0, 1) = -1 stretchOf(0, 0) = 0"
            + " stretchOf(1, 0) = 6 status(0) = 2");
    }

    private static final String BY_ROW = "STRETCHES by n elements of the ROW in SHELF s from i on, "
        + "four each, as stretch() has them, until one that can't be one, or that there is no room "
        + "for: how many came.";

    private static void stretchesUntil() {
        Due.sentence(10, BY_ROW);
        long[][] never = {{-1, 1, 0, 1}, {7, 1, 0, 1}, {0, 0, 0, 1}, {0, 61, 0, 1}, {0, 1, -1, 1},
            {0, 1, 61, 1}, {0, 1, 0, 0}, {0, 1, 0, 61}};
        for (long[] n : never) {
            Calls.fresh().row(0, 2, 0, 5, 0, 5, n[0], n[1], n[2], n[3], 0, 6, 0, 6)
                .calls("stretches(0, 0, 12) = 1 status(0) = 1 stretches(0, 4, 8) = 0 status(0) = 1"
                    + " stretches(0, 4, 4) = 0 stretches(0, 8, 4) = 1 stretchOf(1, 1) = 6"
                    + " status(16) = 0");
        }
        Calls.fresh().row(0, 2, 9, 6, 60, 60, 60, 0, 1, 0, 1, 9)
            .calls("stretches(0, 1, 8) = 2 stretchOf(0, 0) = 6 stretchOf(0, 1) = 60"
                + " stretchOf(0, 2) = 60 stretchOf(0, 3) = 60 stretchOf(1, 0) = 0"
                + " stretchOf(1, 1) = 1 stretchOf(1, 2) = 0 stretchOf(1, 3) = 1"
                + " stretches(0, 1, 0) = 0 stretches(0, 10, 0) = 0 status(0) = 2");
        Calls.fresh().row(0, 2, 0, 5, 0, 5, 1, 6, 0, 6, 2, 7, 0, 7, 3, 8, 0, 8)
            .calls("stretches(0, 0, 4) = 1 stretches(0, 4, 8) = 2 stretches(0, 0, 12) = 3"
                + " stretches(0, 0, 0) = 0 status(0) = 6 stretchOf(0, 0) = 0 stretchOf(1, 0) = 1"
                + " stretchOf(2, 0) = 2 stretchOf(3, 0) = 0 stretchOf(5, 0) = 2");
        Calls.fresh().calls("row(0, 2, 0) stretches(0, 0, 0) = 0 stretches(0, 0, 4) = -5"
            + " stretches(0, -1, 0) = -5 status(0) = 0");
    }

    private static void stretchesOfFullRow() {
        Due.sentence(10, BY_ROW);
        Calls x = Calls.fresh().calls("row(0, 0, 160)");
        for (int i = 0; i < 160; i++) {
            x.calls("set(0, " + i + ", " + (i % 4 == 1 ? i / 4 + 1 : 1) + ")");
        }
        x.calls("stretches(0, 156, 4) = 1 stretchOf(0, 1) = 40 stretches(0, 157, 4) = -5"
            + " stretches(0, 156, 8) = -5 stretches(0, 0, 164) = -5 till(0)"
            + " stretches(0, 0, 160) = 16 status(0) = 16 stretchOf(15, 1) = 16"
            + " stretches(0, 0, 160) = 0 status(17) = 0");
    }

    private static void stretchesRoom() {
        Due.sentence(10, BY_ROW);
        Calls x = Calls.fresh().row(0, 2, 0, 5, 0, 5, 1, 6, 0, 6, 2, 7, 0, 7);
        for (int i = 0; i < 14; i++) {
            x.calls("stretch(0, 1, 0, 1)");
        }
        x.calls("stretches(0, 0, 12) = 2 status(0) = 16 stretchOf(15, 1) = 6"
            + " stretches(0, 0, 12) = 0 till(15) stretches(0, 8, 4) = 1 stretchOf(15, 1) = 7"
            + " status(17) = 0 status(16) = 0");
    }

    private static void till() {
        Due.sentence(11, "STRETCHES from number n on are gone: how many are left.");
        Calls.full().calls("till(17) = -6 till(16) = 16 status(0) = 16 till(15) = 15 status(0) = 15"
            + " till(16) = -6 stretchOf(14, 1) = 15 stretchOf(15, 1) = -5 till(1) = 1"
            + " stretchOf(0, 1) = 1 stretchOf(1, 1) = -5 till(-1) = -6 till(0) = 0 status(0) = 0"
            + " stretchOf(0, 1) = -5 till(0) = 0 till(1) = -6 status(3) = 0");
    }

    private static void stretchOf() {
        Due.sentence(12, "Of a STRETCH: 0 KIND, 1 SPACE, 2 OTHER, 3 TIMES, 4 LENGTH.");
        Calls.full().calls("stretchOf(0, 0) = 0 stretchOf(0, 1) = 1 stretchOf(0, 2) = 3"
            + " stretchOf(0, 3) = 2 stretchOf(0, 4) = 2 stretchOf(15, 0) = 1 stretchOf(15, 1) = 16"
            + " stretchOf(15, 2) = 3 stretchOf(15, 3) = 2 stretchOf(15, 4) = 32"
            + " stretchOf(9, 4) = 26 stretchOf(13, 4) = 6 stretchOf(16, 0) = -5"
            + " stretchOf(-1, 0) = -5 stretchOf(0, -1) = -5 stretchOf(0, 5) = -5");
    }

    private static void car() {
        Due.sentence(13, "A CAR: the number.");
        Calls.fresh().calls("car(1, 999, 100) = 0 car(99, 0, 0) = 1 carOf(0, 0) = 1");
        Due.sentence(14, "Of a CAR: 0 SPEED, 1 BASE, 2 SHARE.");
        Calls.fresh().calls("car(1, 999, 40) car(99, 0, 60) carOf(0, 0) = 1 carOf(0, 1) = 999"
            + " carOf(0, 2) = 40 carOf(1, 0) = 99 carOf(1, 1) = 0 carOf(1, 2) = 60 carOf(2, 0) = -5"
            + " carOf(-1, 0) = -5 carOf(1, 3) = -5 carOf(1, -1) = -5");
    }

    private static void tune() {
        Due.sentence(15, "A TUNE by elements 0 on of the ROW in SHELF s, n notes (0 to 12), two "
            + "each: PITCH, BEATS: the number.");
        Calls.fresh().row(0, 2, 440, 1, 880, 2, 770).calls("tune(0, -1) = -4 tune(0, 0) = 0"
            + " tune(0, 2) = 1 tune(0, 3) = -5 tune(0, 1) = 2 noteOf(1, 0, 0) = 440"
            + " noteOf(1, 1, 0) = 880 noteOf(1, 1, 1) = 2 noteOf(2, -1, 0) = 1 status(2) = 3");
        Calls.fresh().calls("row(0, 3, 0) tune(0, 0) = 0 tune(0, 1) = -5 status(2) = 1");
        Calls x = Calls.fresh().calls("row(0, 1, 24)");
        for (int i = 0; i < 24; i++) {
            x.calls("set(0, " + i + ", " + (i % 2 == 0 ? 9999 - i : i / 2 + 5) + ")");
        }
        x.calls("tune(0, 12) = 0 tune(0, 13) = -5 noteOf(0, 0, 0) = 9999 noteOf(0, 0, 1) = 5"
            + " noteOf(0, 11, 0) = 9977 noteOf(0, 11, 1) = 16 row(0, 1, 26) tune(0, 13) = -6"
            + " status(2) = 1");
    }

    private static void noteOf() {
        Due.sentence(16, "Of a note of a TUNE: 0 PITCH, 1 BEATS; of a TUNE (note NONE): 0 how many "
            + "notes, 1 BEATS of all.");
        Calls x = Calls.fresh().calls("row(0, 2, 24)");
        for (int i = 0; i < 24; i++) {
            x.calls("set(0, " + i + ", " + (i % 2 == 0 ? i : 16) + ")");
        }
        x.calls("tune(0, 12) = 0 tune(0, 0) = 1 noteOf(0, 0, 0) = 0 noteOf(0, 11, 0) = 22"
            + " noteOf(0, 11, 1) = 16 noteOf(0, 12, 0) = -5 noteOf(0, -1, 0) = 12"
            + " noteOf(0, -1, 1) = 192 noteOf(1, -1, 0) = 0 noteOf(1, -1, 1) = 0"
            + " noteOf(1, 0, 0) = -5 noteOf(0, -2, 0) = -5 noteOf(0, 0, 2) = -5"
            + " noteOf(0, -1, 2) = -5 noteOf(2, -1, 0) = -5 noteOf(-1, -1, 0) = -5");
    }

    private static void ask() {
        Due.sentence(17, "LONG (what 0), NEAR (1), BORNE (2), TEMPO (3) becomes v: what it was.");
        Calls.fresh().calls("ask(-1, 2) = -6 ask(0, 9999) = 2000 ask(1, 30) = 4 ask(2, 500) = 20"
            + " ask(3, 2000) = 200 ask(4, 100) = -6 ask(0, 9999) = 9999 ask(0, 1) = 9999"
            + " ask(1, 2) = 30 ask(2, 0) = 500 ask(3, 50) = 2000 ask(0, 1) = 1 ask(1, 2) = 2"
            + " ask(2, 0) = 0 ask(3, 50) = 50");
    }
}
