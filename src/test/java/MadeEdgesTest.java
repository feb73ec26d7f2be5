/** The sentences on what is made of THE ROAD that name an edge: promises 29 to 42. */
public final class MadeEdgesTest {
    private MadeEdgesTest() {
    }

    public static void main(String[] args) {
        cutFromNearTo60();
        cutOfSeveralTheLeast();
        cutOffHeld();
        cutEndsNearest();
        cutTimesHeld();
        cutTrulyEnds();
        cutOfRests();
        cut();
        cutOfATune();
        lay();
        fitsByLong();
        fitsByBorne();
        can();
        served();
        best();
        bestWithoutCars();
        twoBySpaces();
        twoByBorne();
        twoOfRests();
        briefTwice();
        briefOneAtLeast();
        briefManyTimes();
        scaleWithin();
        scaleNearest();
        scale();
        read();
        mirror();
        warns();
        worn();
        draws();
        carsByDraws();
        dayOfMany();
        Due.end("MadeEdgesTest");
    }

    private static final String CUT = "CUT of a note (PITCH p above 0) for a SPEED: the SPACE from "
        + "NEAR to 60 whose HUM (EVEN) is least OFF p, of several the least; TIMES: so that the "
        + "STRETCH ends nearest to where it should (the sum of BEATS to its end times TEMPO, times "
        + "704 times v, by 10000, cut: its PLACE), of several the fewer; 1 at least, 60 at most. A "
        + "rest: SPACE 10, TIMES likewise.";
    private static final String CUT_DETAILS = "In CUT, a note begins where the one ahead truly "
        + "ends, OFF is held at 999 as SPACES are compared, and a rest has SPACE 10 whatever NEAR "
        + "is, and is 0 OFF.";

    private static void cutFromNearTo60() {
        Due.sentence(0, CUT);
        // 7040 by 3 is 2346, by 59 119, by 60 117, by 61 115
        Calls.fresh().tune(2346, 1).tune(119, 1).tune(117, 1).tune(115, 1).calls(
            "cut(0, 0, 10, 0) = 4 cut(0, 0, 10, 2) = 249 ask(1, 5) cut(0, 0, 10, 0) = 5 ask(1, 3)"
            + " cut(0, 0, 10, 0) = 3 cut(0, 0, 10, 2) = 0 ask(1, 2) cut(0, 0, 10, 0) = 3"
            + " cut(1, 0, 10, 0) = 59 cut(2, 0, 10, 0) = 60 cut(2, 0, 10, 2) = 0"
            + " cut(3, 0, 10, 0) = 60 cut(3, 0, 10, 2) = 17");
        Calls.fresh().tune(9999, 1).tune(1, 1).calls("ask(1, 30) cut(0, 0, 99, 0) = 30"
            + " cut(0, 0, 1, 0) = 30 cut(1, 0, 1, 0) = 30 ask(1, 2) cut(0, 0, 99, 0) = 7"
            + " cut(0, 0, 1, 0) = 2");
    }

    private static void cutOfSeveralTheLeast() {
        Due.sentence(0, CUT);
        // 51 to 54 hum 13; 704 and 640 are 47 off 672; of 6652 6969 and, nearer by little, 6336 are
        Calls.fresh().tune(13, 1).tune(672, 1).tune(6652, 1).calls("cut(0, 0, 1, 0) = 51"
            + " cut(0, 0, 1, 2) = 0 cut(1, 0, 10, 0) = 10 cut(1, 0, 10, 2) = 47"
            + " cut(2, 0, 99, 0) = 10 cut(2, 0, 99, 2) = 47 off(6336, 6652) = 47"
            + " ask(1, 11) cut(2, 0, 99, 0) = 11 cut(1, 0, 10, 0) = 11");
    }

    private static void cutOffHeld() {
        Due.sentence(0, CUT_DETAILS);
        // 69696 by 60 is 1161: 998 off 581, beyond 999 off 580
        Calls.fresh().tune(581, 1).tune(580, 1).tune(1, 1).calls("cut(0, 0, 99, 0) = 60"
            + " cut(0, 0, 99, 2) = 998 cut(1, 0, 99, 0) = 4 cut(1, 0, 99, 2) = 999"
            + " cut(2, 0, 99, 0) = 4 cut(2, 0, 99, 2) = 999 ask(1, 30) cut(2, 0, 99, 0) = 30");
    }

    private static void cutEndsNearest() {
        Due.sentence(0, CUT);
        // PLACES 35.2 and 35.9, cut, as far from 30 as from 40; 36.6
        Calls.fresh().tune(704, 1).tune(704, 3).calls("ask(3, 50) cut(0, 0, 10, 1) = 3 ask(3, 51)"
            + " cut(0, 0, 10, 1) = 3 ask(3, 52) cut(0, 0, 10, 1) = 4 ask(3, 50)"
            + " cut(1, 0, 10, 1) = 10");
        // PLACES 15 (as far from 10 as from 20), 15.9, cut, and 16
        Calls.fresh().tune(0, 1).calls("ask(3, 214) cut(0, 0, 1, 1) = 1 ask(3, 227)"
            + " cut(0, 0, 1, 1) = 1 ask(3, 228) cut(0, 0, 1, 1) = 2");
        // PLACE 3030.7, cut, of SPACE 60 as far from 3000 as from 3060
        Calls.fresh().tune(176, 5).calls("ask(3, 574) cut(0, 0, 15, 0) = 60 cut(0, 0, 15, 1) = 50"
            + " ask(3, 575) cut(0, 0, 15, 1) = 51");
    }

    private static void cutTimesHeld() {
        Due.sentence(0, CUT);
        // PLACES 594, 595 (as far from 590 as from 600), 596, 604, 609, 1408
        Calls.fresh().tune(704, 1).calls("ask(3, 845) cut(0, 0, 10, 1) = 59 ask(3, 846)"
            + " cut(0, 0, 10, 1) = 59 ask(3, 847) cut(0, 0, 10, 1) = 60 ask(3, 859)"
            + " cut(0, 0, 10, 1) = 60 ask(3, 866) cut(0, 0, 10, 1) = 60 ask(3, 2000)"
            + " cut(0, 0, 10, 1) = 60");
        // PLACE 3 of SPACE 10; then PLACES that lie ahead of where the notes begin
        Calls.fresh().tune(704, 1).tune(11, 1, 0, 1, 0, 1).calls("ask(3, 50) cut(0, 0, 1, 1) = 1"
            + " ask(3, 200) cut(1, 0, 1, 0) = 59 cut(1, 0, 1, 1) = 1 cut(1, 1, 1, 1) = 1"
            + " cut(1, 2, 1, 1) = 1");
        long[] longest = new long[24];
        for (int i = 0; i < 24; i += 2) {
            longest[i + 1] = 16;
        }
        Calls x = Calls.fresh().tune(longest).calls("ask(3, 2000)");
        for (int i = 0; i < 12; i++) {
            x.calls("cut(0, " + i + ", 99, 1) = 60 cut(0, " + i + ", 99, 0) = 10");
        }
    }

    private static void cutTrulyEnds() {
        Due.sentence(0, CUT_DETAILS);
        // PLACES 35, 70, 140: the first ends at 30
        Calls.fresh().tune(704, 1, 704, 1, 704, 2).calls("ask(3, 50) cut(0, 0, 10, 1) = 3"
            + " cut(0, 1, 10, 1) = 4 cut(0, 2, 10, 1) = 7");
        // PLACES 2252 and 2675: the first ends at 600, the others at 1200, 1800, 2400, 2670
        Calls.fresh().tune(704, 16, 704, 1, 704, 1, 704, 1, 0, 1).calls("cut(0, 0, 10, 1) = 60"
            + " cut(0, 1, 10, 1) = 60 cut(0, 2, 10, 1) = 60 cut(0, 3, 10, 1) = 60"
            + " cut(0, 4, 10, 1) = 42");
    }

    private static void cutOfRests() {
        Due.sentence(0, CUT_DETAILS);
        Calls.fresh().tune(0, 1, 0, 16).calls("cut(0, 0, 10, 0) = 10 cut(0, 0, 10, 1) = 14"
            + " cut(0, 0, 10, 2) = 0 ask(1, 30) cut(0, 0, 10, 0) = 10 cut(0, 0, 10, 1) = 14"
            + " cut(0, 0, 10, 2) = 0 cut(0, 1, 99, 0) = 10 cut(0, 1, 99, 2) = 0 ask(1, 2)"
            + " cut(0, 0, 1, 0) = 10");
    }

    private static void cut() {
        Due.sentence(29, "CUT of note i of a TUNE for a SPEED: SPACE (what 0), TIMES (1), its OFF "
            + "(2).");
        Calls x = Calls.fresh().tune(704, 1, 0, 1, 704, 1, 0, 1, 704, 1, 0, 1, 704, 1, 0, 1, 704, 1,
            0, 1, 704, 1, 700, 1);
        x.calls("cut(0, 0, 10, 0) = 10 cut(0, 11, 10, 0) = 10 cut(0, 11, 10, 1) = 14"
            + " cut(0, 11, 10, 2) = 5 cut(0, 12, 10, 0) = -1 cut(0, -1, 10, 0) = -1"
            + " cut(1, 0, 10, 0) = -1 cut(0, 0, 10, -1) = -5 cut(0, 0, 10, 3) = -5"
            + " cut(0, 0, 0, 0) = -6 cut(0, 0, 100, 0) = -6 cut(0, 0, 1, 0) = 4"
            + " cut(0, 0, 99, 0) = 60 cut(0, 0, 99, 2) = 649 status(0) = 0");
        Calls.fresh().calls("cut(0, 0, 1, 0) = -1").tune().calls("cut(0, 0, 1, 0) = -1");
    }

    private static void cutOfATune() {
        Due.sentence(0, "CUT of a TUNE: its notes, one behind the other (EVEN, REST).");
        Calls.fresh().tune(704, 1, 0, 1, 2346, 1).calls("lay(0, 10) = 420 status(0) = 3"
            + " stretchOf(0, 0) = 1 stretchOf(0, 1) = 10 stretchOf(0, 2) = 0 stretchOf(0, 3) = 14"
            + " stretchOf(1, 0) = 3 stretchOf(1, 1) = 10 stretchOf(1, 2) = 0 stretchOf(1, 3) = 14"
            + " stretchOf(2, 0) = 1 stretchOf(2, 1) = 4 stretchOf(2, 2) = 0 stretchOf(2, 3) = 35");
    }

    private static void lay() {
        Due.sentence(30, "THE ROAD becomes the CUT of a TUNE for a SPEED: LENGTHS together.");
        // of PITCH 1 all are 999 off: SPACE 4, 60 times each at 99, up to PLACES 168 and 14 at 1
        Calls.full().calls("lay(5, 0) = -6 lay(5, 100) = -6 lay(6, 1) = -1 lay(-1, 1) = -1"
            + " status(0) = 16 lay(5, 99) = 2880 status(3) = 2880 status(0) = 12 lay(5, 1) = 168"
            + " status(3) = 168 status(0) = 12 ask(0, 1) lay(0, 1) = 12 status(0) = 1 wrong() = 2");
        // PLACES 140.8 times 1 to 12, ends 140, 280, .. 980, 1130, .. 1690
        Calls.fresh().tune(704, 1, 704, 1, 704, 1, 704, 1, 704, 1, 704, 1, 704, 1, 704, 1, 704, 1,
            704, 1, 704, 1, 704, 1).tune().calls("stretch(2, 9, 9, 9) lay(0, 10) = 1690"
            + " status(3) = 1690 status(0) = 12 stretchOf(6, 3) = 14 stretchOf(7, 3) = 15"
            + " stretchOf(8, 3) = 14 stretchOf(12, 0) = -5 lay(1, 10) = 0 status(0) = 0"
            + " status(3) = 0 ask(0, 1) = 2000 ask(1, 2) = 4");
    }

    private static final String FITS = "FITS: if it is LAWFUL by that, and each note OFF no more than "
        + "BORNE.";

    private static void fitsByLong() {
        Due.sentence(0, FITS);
        Calls.fresh().tune(704, 1).tune(704, 1, 0, 1).tune().calls("lay(0, 10) = 140 lay(1, 10) = 280"
            + " ask(0, 139) fits(0, 10) = 0 ask(0, 140) fits(0, 10) = 1 fits(1, 10) = 0 ask(0, 279)"
            + " fits(1, 10) = 0 ask(0, 280) fits(1, 10) = 1 ask(0, 1) fits(0, 10) = 0"
            + " fits(2, 10) = 1 fits(2, 1) = 1 fits(2, 99) = 1");
        Due.sentence(31, "Whether the CUT of a TUNE for a SPEED FITS: 1, 0.");
        Calls.fresh().tune(704, 1).calls("fits(0, 10) = 1 fits(0, 0) = -6 fits(0, 1) = 0"
            + " fits(0, 99) = 0 fits(0, 100) = -6 fits(1, 10) = -1 fits(-1, 10) = -1"
            + " stretch(1, 1, 0, 60) stretch(2, 60, 60, 60) wrong() = 1 fits(0, 10) = 1");
    }

    private static void fitsByBorne() {
        Due.sentence(0, FITS);
        // 704 is 5 off 700
        Calls.fresh().tune(700, 1, 704, 1, 0, 1).tune(704, 1, 0, 1, 700, 1).tune(704, 1, 0, 1)
            .calls("ask(2, 4) fits(0, 10) = 0 fits(1, 10) = 0 ask(2, 5) fits(0, 10) = 1"
                + " fits(1, 10) = 1 ask(2, 0) fits(2, 10) = 1 fits(0, 10) = 0");
        // NEAR 10 allows the SPACE, 11 another that is 86 off 700; a rest's SPACE is never too near
        Calls.fresh().tune(700, 1).tune(0, 1).calls("ask(1, 10) fits(0, 10) = 1 ask(1, 11)"
            + " cut(0, 0, 10, 2) = 85 ask(2, 84) fits(0, 10) = 0 ask(2, 85) fits(0, 10) = 1"
            + " ask(1, 30) ask(2, 0) fits(1, 10) = 1");
    }

    private static void can() {
        Due.sentence(32, "TUNES (bits) whose CUT for a SPEED FITS.");
        Calls.fresh().calls("can(1) = 0 can(99) = 0 can(0) = -6 can(100) = -6").tune(704, 1)
            .tune(117, 1).tune(1, 1).tune(1, 1).tune(1, 1).tune(704, 1).calls("can(10) = 35"
                + " ask(0, 139) can(10) = 2 ask(0, 1) can(10) = 0");
        Calls x = Calls.fresh();
        for (int t = 0; t < 6; t++) {
            x.tune();
        }
        x.calls("can(1) = 63 can(99) = 63");
    }

    private static void served() {
        Due.sentence(0, "SERVED by a SPEED: SHARES of CARS that would HEAR a TUNE cut for it.");
        // 774 is 99 off 704
        Calls.fresh().tune(704, 1, 0, 1).tune().tune(0, 1).calls("served(0, 10) = 0 served(1, 10) = 0"
            + " car(10, 0, 30) car(11, 0, 40) car(10, 0, 0) car(99, 0, 1) served(0, 10) = 30"
            + " served(0, 11) = 40 ask(2, 98) served(0, 10) = 30 ask(2, 99) served(0, 10) = 70"
            + " ask(2, 0) served(0, 10) = 30 served(1, 1) = 71 served(2, 99) = 71 ask(0, 1)"
            + " served(0, 10) = 30");
        Due.sentence(33, "SERVED.");
        Calls.full().calls("served(5, 0) = -6 served(5, 100) = -6 served(6, 1) = -1"
            + " served(-1, 1) = -1 ask(2, 500) served(5, 1) = 0 served(5, 99) = 0");
        // a car that hears its first and last notes, but not the one between
        Calls.fresh().tune(704, 1, 705, 1, 704, 1).calls("car(10, 0, 9) ask(2, 0) served(0, 10) = 0"
            + " ask(2, 1) served(0, 10) = 9");
    }

    private static void best() {
        Due.sentence(0, "BEST SPEED: of 1 to 99 that by which most are SERVED, of several the least.");
        // 1161 is cut 60 for 99, 59 for 98; 11 is cut 59 for 1
        Calls.fresh().tune(1161, 1).tune(704, 1).tune(11, 1).calls("ask(2, 0) car(99, 0, 1)"
            + " best(0) = 99 served(0, 99) = 1 served(0, 98) = 0");
        Calls.fresh().tune(704, 1).tune(11, 1).calls("ask(2, 0) car(10, 0, 40) car(11, 0, 40)"
            + " best(0) = 10 car(11, 0, 1) best(0) = 11 car(10, 0, 1) best(0) = 10 car(1, 0, 1)"
            + " best(1) = 1 served(1, 1) = 1");
        // by none: the least
        Calls.fresh().tune(1, 1).calls("car(99, 0, 100) best(0) = 1 served(0, 1) = 0");
        Calls.fresh().tune(1161, 1).calls("ask(2, 0) car(99, 0, 0) best(0) = 1");
        Due.sentence(34, "BEST SPEED for a TUNE.");
        Calls.full().calls("best(5) = 1 best(6) = -1 best(-1) = -1");
    }

    private static void bestWithoutCars() {
        Due.sentence(0, "BEST SPEED without CARS is 1.");
        Calls.fresh().tune(1161, 1).tune().calls("best(0) = 1 best(1) = 1");
    }

    private static final String TWO = "TWO: of two TUNES of like many notes, at two SPEEDS: how many "
        + "notes have a SPACE from NEAR to 60 by which both are OFF no more than BORNE (two rests "
        + "have).";

    private static void twoBySpaces() {
        Due.sentence(0, TWO);
        // by 4 1760 and 3520; by 60 117 and 234; by 61 115 and 230
        Calls.fresh().tune(1760, 1, 117, 1, 115, 1).tune(3520, 1, 234, 1, 230, 1)
            .calls("ask(2, 0) two(0, 10, 1, 20) = 2 two(1, 20, 0, 10) = 2 ask(1, 5)"
                + " two(0, 10, 1, 20) = 1 ask(1, 30) two(0, 10, 1, 20) = 1 ask(1, 2)"
                + " two(0, 10, 1, 20) = 2 two(0, 20, 1, 10) = 0 two(0, 10, 0, 10) = 2");
        Due.sentence(35, "TWO.");
        Calls.fresh().tune(704, 1).tune(704, 1).tune().tune().tune(704, 1, 704, 1)
            .calls("two(0, 10, 1, 10) = 1 two(0, 0, 1, 1) = -6 two(0, 1, 1, 0) = -6"
                + " two(0, 100, 1, 1) = -6 two(0, 1, 1, 100) = -6 two(0, 99, 1, 99) = 0"
                + " two(0, 1, 1, 1) = 0 two(2, 1, 3, 99) = 0 two(0, 1, 2, 1) = -6"
                + " two(0, 1, 4, 1) = -6 two(5, 1, 0, 1) = -1 two(0, 1, 5, 1) = -1"
                + " two(-1, 1, 0, 1) = -1 two(0, 1, -1, 1) = -1");
    }

    private static void twoByBorne() {
        Due.sentence(0, TWO);
        // by 10 1408 is 1 off 1410
        Calls.fresh().tune(704, 1).tune(1410, 1).calls("ask(2, 0) two(0, 10, 1, 20) = 0"
            + " two(1, 20, 0, 10) = 0 ask(2, 1) two(0, 10, 1, 20) = 1 two(1, 20, 0, 10) = 1");
        // by 7, the least that is 500 off 704 at most, 2011 is 500 off 4030, 501 off 4031
        Calls.fresh().tune(704, 1).tune(4030, 1).tune(4031, 1).calls("ask(2, 500)"
            + " two(0, 10, 1, 20) = 1 two(0, 10, 2, 20) = 0 ask(2, 499) two(0, 10, 1, 20) = 0");
        // 704 by 10 alone, 1280 by 11 alone: each has a SPACE, both have none
        Calls.fresh().tune(704, 1).tune(1280, 1).calls("ask(2, 0) two(0, 10, 1, 20) = 0"
            + " ask(2, 90) two(0, 10, 1, 20) = 1 ask(2, 89) two(0, 10, 1, 20) = 0");
    }

    private static void twoOfRests() {
        Due.sentence(0, TWO);
        Calls.fresh().tune(0, 1, 0, 16, 704, 1, 0, 1).tune(0, 2, 704, 1, 0, 1, 0, 3)
            .calls("ask(2, 500) two(0, 10, 1, 10) = 2 two(1, 99, 0, 1) = 2 two(0, 10, 0, 10) = 4"
                + " ask(2, 0) ask(1, 30) two(0, 10, 1, 10) = 2 two(0, 10, 0, 10) = 3");
        Calls.fresh().tune(0, 1, 0, 1, 0, 1, 0, 1, 0, 1, 0, 1, 0, 1, 0, 1, 0, 1, 0, 1, 0, 1, 0, 1)
            .calls("two(0, 1, 0, 99) = 12");
    }

    private static final String BRIEF = "BRIEF of a TUNE at a SPEED: the least LENGTH: of each note "
        + "the SPACE as CUT, as many TIMES (1 at least) that twice what they LAST is its BEATS times "
        + "TEMPO at least (rests: SPACE 10), together.";

    private static void briefTwice() {
        Due.sentence(0, BRIEF);
        // of SPACE 10 seven last 99.4, eight 113.6, nine 127
        Calls.fresh().tune(704, 1).tune(704, 1, 0, 1, 704, 2).tune(704, 1, 0, 1).calls("ask(3, 198)"
            + " brief(0, 10) = 70 brief(2, 10) = 140 ask(3, 199) brief(0, 10) = 80 ask(3, 226)"
            + " brief(0, 10) = 80 ask(3, 227) brief(0, 10) = 90 ask(3, 99) brief(1, 10) = 150"
            + " ask(1, 10) brief(1, 10) = 150 ask(1, 30) brief(2, 10) = 100");
        Due.sentence(36, "BRIEF.");
        Calls.full().calls("brief(5, 0) = -6 brief(5, 100) = -6 brief(6, 1) = -1 brief(-1, 1) = -1");
        Calls.fresh().tune().calls("brief(0, 1) = 0 brief(0, 99) = 0");
    }

    private static void briefOneAtLeast() {
        Due.sentence(0, BRIEF);
        // one of SPACE 59 lasts 838 at 1
        Calls.fresh().tune(11, 1).calls("ask(3, 50) brief(0, 1) = 59 ask(3, 1676) brief(0, 1) = 59"
            + " ask(3, 1677) brief(0, 1) = 118");
        Calls.fresh().tune(0, 1).calls("ask(3, 50) brief(0, 1) = 10");
    }

    private static void briefManyTimes() {
        Due.sentence(0, "BRIEF takes as many TIMES as are wanted; what they LAST is cut for all of "
            + "them together.");
        // seven last 99 together, 98 if each is cut
        Calls.fresh().tune(704, 1).calls("ask(3, 198) brief(0, 10) = 70");
        // 60 of SPACE 10 last 852 at 10
        Calls.fresh().tune(704, 1).tune(0, 16).calls("ask(3, 1704) brief(0, 10) = 600 ask(3, 1705)"
            + " brief(0, 10) = 610 ask(3, 2000) brief(1, 99) = 111520");
        // 352 of SPACE 10 last a second just so at 50
        Calls.fresh().tune(0, 16).calls("ask(3, 125) brief(0, 50) = 3520 ask(3, 126)"
            + " brief(0, 50) = 3550");
    }

    private static final String SCALE = "SCALE: HUM as a step of twelve above a BASE PITCH b (1 to "
        + "9999): HUM times 1000 by b, cut, halved (cut) or doubled till it is from 1000 to 1999; the "
        + "step (0 to 11) of 1000 1059 1122 1189 1260 1335 1414 1498 1587 1682 1782 1888 nearest to "
        + "it, of several the least.";

    private static void scaleWithin() {
        Due.sentence(0, SCALE);
        // 9956000 by b: 999, 1000, 1999, 2000, 3999 (1999), 4000; 500 (1000), 499 (1996)
        Calls.fresh().calls("stretch(1, 7, 0, 1) hum(0, 99) = 9956 scale(0, 99, 9965) = 11"
            + " scale(0, 99, 9956) = 0 scale(0, 99, 4979) = 11 scale(0, 99, 4978) = 0"
            + " scale(0, 99, 2489) = 0 stretch(1, 10, 0, 1) scale(1, 10, 1408) = 0"
            + " scale(1, 10, 1410) = 11 scale(1, 10, 704) = 0 scale(1, 10, 352) = 0"
            + " scale(1, 10, 353) = 11 scale(1, 10, 176) = 0 scale(1, 10, 177) = 11");
        // 139392000 halved 17 times is 1063; 1, 2 and 3 doubled are 1024, 1024 and 1536
        Calls.fresh().calls("stretch(2, 1, 0, 1) scale(0, 99, 1) = 1 stretch(5, 60, 60, 1)"
            + " hum(1, 1) = 5 scale(1, 1, 5000) = 0 scale(1, 1, 2500) = 0 scale(1, 1, 1666) = 7"
            + " scale(1, 1, 5001) = -1 scale(1, 1, 9999) = -1");
    }

    private static void scaleNearest() {
        Due.sentence(0, SCALE);
        int[] steps = {1000, 1059, 1122, 1189, 1260, 1335, 1414, 1498, 1587, 1682, 1782, 1888};
        Calls x = Calls.fresh().calls("stretch(1, 7, 0, 1)");
        for (int i = 0; i < 11; i++) {
            int middle = (steps[i] + steps[i + 1]) / 2;
            nearest(x, steps[i], i);
            nearest(x, middle, i);
            nearest(x, middle + 1, i + 1);
        }
        nearest(x, 1888, 11);
        nearest(x, 1999, 11);
        // as far from one as from another
        nearest(x, 1456, 6);
        nearest(x, 1732, 9);
        nearest(x, 1835, 10);
    }

    /** 9956000 by b is the number. */
    private static void nearest(Calls x, int number, int step) {
        int b = 9956000 / number;
        Due.due("9956000 by " + b, 9956000 / b, number);
        x.calls("scale(0, 99, " + b + ") = " + step);
    }

    private static void scale() {
        Due.sentence(37, "SCALE of a STRETCH at a SPEED above b; NONE: HUM times 1000 by b, cut, is "
            + "0.");
        Calls.full().calls("scale(0, 1, 0) = -16 scale(0, 1, 1) = 6 scale(0, 1, 9999) = 2"
            + " scale(0, 1, 10000) = -16 scale(0, 0, 1) = -16 scale(0, 100, 1) = -16"
            + " scale(15, 99, 4356) = 0 scale(16, 1, 1) = -11 scale(-1, 1, 1) = -11"
            + " scale(16, 0, 0) = -11 scale(3, 1, 1) = -1 scale(3, 99, 9999) = -1 status(11) = 3"
            + " status(16) = 4");
    }

    private static void read() {
        Due.sentence(38, "The TUNE whose WORST by a CAR on THE ROAD is least, of several the first.");
        // WORST 22, 5, 5, 0, 0, 0
        Calls.fresh().calls("car(10, 0, 0) read(0) = -5 read(1) = -1 read(-1) = -1"
            + " stretch(1, 10, 0, 1)").tune(720, 1).calls("read(0) = 0").tune(700, 1)
            .calls("read(0) = 1").tune(708, 1).calls("hears(0, 2, 0) = 5 read(0) = 1").tune(704, 1)
            .calls("read(0) = 3").tune(704, 1).tune().calls("read(0) = 3 till(0) read(0) = 5");
        Calls.fresh().tune(704, 1).tune(1, 1).calls("car(10, 0, 0) read(0) = 0 stretch(1, 10, 0, 1)"
            + " read(0) = 0");
        Calls.fresh().tune(720, 1).tune(704, 1).tune(710, 1).calls("car(10, 0, 0)"
            + " stretch(1, 10, 0, 1) read(0) = 1");
        Calls.full().calls("read(5) = 0 read(6) = -1");
    }

    private static void mirror() {
        Due.sentence(0, "MIRROR: how many pairs of STRETCHES (the first and the last, the second and "
            + "the last but one ..) have unlike HUMS at SPEED 10.");
        Due.sentence(39, "MIRROR.");
        Calls.fresh().calls("mirror() = 0 stretch(1, 10, 0, 1) mirror() = 0 stretch(1, 10, 5, 9)"
            + " mirror() = 0 stretch(1, 11, 0, 1) mirror() = 1 stretch(1, 12, 0, 1) mirror() = 2"
            + " stretch(1, 10, 0, 1) mirror() = 1 till(2) mirror() = 0 till(1) mirror() = 0");
        Calls x = Calls.fresh();
        Calls alike = Calls.fresh();
        for (int i = 0; i < 16; i++) {
            x.calls("stretch(1, " + (i + 10) + ", 0, 1)");
            alike.calls("stretch(1, " + Math.min(i + 10, 25 - i) + ", 0, 1)");
        }
        x.calls("mirror() = 8 till(15) mirror() = 7 till(14) mirror() = 7");
        alike.calls("mirror() = 0 till(15) mirror() = 7");
        Calls.fresh().calls("stretch(1, 10, 0, 1) stretch(1, 11, 0, 1) stretch(1, 11, 0, 1)"
            + " stretch(1, 12, 0, 1) mirror() = 1 till(3) mirror() = 1");
        // at 10 75 by 93 and 74 by 94 and 95
        Calls.fresh().calls("stretch(5, 60, 34, 1) stretch(5, 60, 35, 1) hum(0, 10) = 74"
            + " hum(1, 10) = 74 hum(0, 11) = 82 hum(1, 11) = 81 mirror() = 0 till(0)"
            + " stretch(5, 60, 48, 1) stretch(5, 60, 49, 1) hum(0, 10) = 65 hum(1, 10) = 64"
            + " hum(0, 9) = 58 hum(1, 9) = 58 mirror() = 1");
    }

    private static void warns() {
        Due.sentence(40, "The least SPEED (1 to 99) at which some STRETCH HUMS v (0 to 99999) at "
            + "least; NONE: none.");
        Calls.fresh().calls("warns(-1) = -16 warns(0) = -1 warns(99999) = -1 warns(100000) = -16"
            + " stretch(3, 1, 0, 1) warns(0) = 1 warns(1) = -1 stretch(1, 10, 0, 1) warns(0) = 1"
            + " warns(70) = 1 warns(71) = 2 warns(6899) = 98 warns(6900) = 99 warns(6969) = 99"
            + " warns(6970) = -1 stretch(2, 1, 0, 1) warns(6970) = 5 warns(1408) = 1 warns(1409) = 2"
            + " warns(99968) = 71 warns(99969) = 72 warns(99999) = 72 till(1) warns(70) = -1");
    }

    private static void worn() {
        Due.sentence(41, "The first year (0 to 50) behind which no STRETCH is LOUD; NONE: one still "
            + "is.");
        Calls.fresh().calls("worn() = 0 stretch(3, 5, 0, 1) worn() = 0 stretch(5, 5, 0, 1)"
            + " loud(1, 39) = 1 loud(1, 40) = 0 worn() = 40 stretch(6, 5, 0, 1) loud(2, 49) = 1"
            + " loud(2, 50) = 0 worn() = 50 stretch(4, 5, 0, 1) loud(3, 50) = 5 worn() = -1 till(3)"
            + " worn() = 50 till(2) worn() = 40 till(1) worn() = 0 stretch(4, 5, 0, 1) worn() = -1");
        Calls.fresh().calls("stretch(1, 5, 0, 1) worn() = 50 stretch(3, 5, 0, 1) worn() = 50");
    }

    private static int next(int seed) {
        return seed * 1103515245 + 12345;
    }

    private static int drawn(int seed) {
        return (next(seed) >>> 16) % 100;
    }

    /** A SEED by which a DRAW below 100 is as told, with the first of its bits set, or not. */
    private static int seedFor(int draw, boolean signed) {
        int seed = 0;
        while (drawn(seed) != draw || next(seed) < 0 != signed) {
            seed++;
        }
        return seed;
    }

    private static void draws() {
        Due.sentence(0, "A DRAW below n: SEED (1 at first) becomes SEED times 1103515245, and 12345 "
            + "(an int, wrapping); its upper 16 bits, no sign, modulo n.");
        int[] seeds = {0, 1, -1, Integer.MAX_VALUE, Integer.MIN_VALUE, 12345, -1103515245};
        for (int seed : seeds) {
            Calls.fresh().tune().calls("seed(" + seed + ") = 1 day(0, 1) = 0 status(5) = "
                + next(seed) + " day(0, 2) = 0 status(5) = " + next(next(next(seed))));
        }
        Calls.fresh().tune().calls("status(5) = 1 day(0, 1) = 0 status(5) = 1103527590 day(0, 0) = -6"
            + " status(5) = 1103527590");
        // 32768 and above of the upper bits: with a sign the DRAW would be below 0
        for (int draw = 0; draw < 100; draw += 33) {
            int seed = seedFor(draw, true);
            Calls.fresh().tune().calls("car(1, 0, " + draw + ") seed(" + seed + ") day(0, 1) = 0"
                + " seed(" + seed + ") car(2, 0, 1) day(0, 1) = 1");
        }
    }

    private static void carsByDraws() {
        Due.sentence(0, "A DAY of n CARS by draws: for each a DRAW below 100: the CAR in whose SHARE, "
            + "one after the other, it lies, or none; how many HEAR a TUNE.");
        int[] draws = {0, 19, 20, 49, 50, 74, 75, 99};
        int[] due = {1, 1, 0, 0, 1, 1, 0, 0};
        for (int i = 0; i < draws.length; i++) {
            for (int signed = 0; signed < 2; signed++) {
                int seed = seedFor(draws[i], signed == 1);
                Calls.fresh().tune(704, 1).calls("stretch(1, 10, 0, 1) car(10, 0, 20) car(10, 0, 0)"
                    + " car(20, 0, 30) car(10, 0, 25) car(10, 0, 0) seed(" + seed + ") day(0, 1) = "
                    + due[i]);
            }
        }
        Calls.fresh().tune(704, 1).calls("stretch(1, 10, 0, 1) car(20, 0, 99) car(10, 0, 1) seed("
            + seedFor(99, false) + ") day(0, 1) = 1 seed(" + seedFor(98, false) + ") day(0, 1) = 0"
            + " till(0) seed(" + seedFor(99, false) + ") day(0, 1) = 0");
        // HEAR by BORNE, and of a TUNE beyond THE ROAD's end none
        Calls.fresh().tune(700, 1).tune(704, 1, 0, 1).tune().calls("stretch(1, 10, 0, 1)"
            + " car(10, 0, 100) ask(2, 4) day(0, 9) = 0 ask(2, 5) day(0, 9) = 9 ask(2, 500)"
            + " day(1, 9) = 0 day(2, 9) = 9");
    }

    private static void dayOfMany() {
        Due.sentence(42, "A DAY of n CARS (1 to 200): how many HEAR a TUNE.");
        Calls x = Calls.fresh().tune(704, 1).calls("stretch(1, 10, 0, 1) car(10, 0, 100)"
            + " day(0, 0) = -6 day(0, -1) = -6 day(0, 201) = -6 status(5) = 1 day(0, 1) = 1"
            + " day(0, 200) = 200 day(1, 1) = -1 day(-1, 1) = -1");
        int seed = 1;
        for (int i = 0; i < 201; i++) {
            seed = next(seed);
        }
        x.calls("status(5) = " + seed);
    }
}
