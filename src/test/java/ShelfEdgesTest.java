/** The sentences on a new object, SHELVES and ROWS that name an edge: promises 1 to 8. */
public final class ShelfEdgesTest {
    private ShelfEdgesTest() {
    }

    public static void main(String[] args) {
        newObject();
        shelves();
        oneThingAShelf();
        rowSortsAndSizes();
        lowestBits();
        asInts();
        row();
        set();
        copyAll();
        copyAsTheyWere();
        copyOfTwoSorts();
        element();
        show();
        goneStretches();
        holds();
        says();
        saysAtTheEdges();
        Due.end("ShelfEdgesTest");
    }

    private static void newObject() {
        Due.sentence(1, "No STRETCHES, CARS, TUNES.");
        Calls.fresh().calls("status(0) = 0 status(1) = 0 status(2) = 0 status(3) = 0 status(4) = 0"
            + " stretchOf(0, 0) = -5 carOf(0, 0) = -5 noteOf(0, -1, 0) = -5 show(0, 0) = -1"
            + " till(0) = 0 meet(0) = 0 can(1) = 0");
    }

    private static void shelves() {
        Due.sentence(0, "SHELVES 0 to 7 hold NOTHING (at first), a ROW, or a STRETCH.");
        Calls x = Calls.fresh();
        for (int s = 0; s < 8; s++) {
            x.calls("holds(" + s + ") = -1 set(" + s + ", 0, 1) = -3");
        }
        x.calls("stretch(0, 5, 0, 1) row(0, 2, 1) = 1 row(7, 2, 1) = 1 show(0, 0) = 1"
            + " show(7, 0) = 1 show(0, -1) = 0 show(7, -1) = 0 row(-1, 2, 1) = -1 row(8, 2, 1) = -1"
            + " show(-1, 0) = -1 show(8, 0) = -1 show(-1, -1) = -1 show(8, -1) = -1");
        for (int s = 0; s < 8; s++) {
            x.row(s, 2, 70 + s, 90 + s);
        }
        for (int s = 0; s < 8; s++) {
            x.calls("element(" + s + ", 0) = " + (70 + s) + " element(" + s + ", 1) = " + (90 + s));
        }
    }

    private static void oneThingAShelf() {
        Due.sentence(0, "SHELVES 0 to 7 hold NOTHING (at first), a ROW, or a STRETCH.");
        Calls.fresh().calls("stretch(0, 9, 0, 1) row(3, 2, 2) = 1 set(3, 1, 5) = 1 show(3, 0) = 1"
            + " holds(3) = 0 element(3, 1) = 0 set(3, 1, 5) = -2 says(3, 0) = 9 row(3, 2, 2) = 1"
            + " element(3, 1) = 0 holds(3) = 102 says(3, 0) = -2 set(3, 1, 6) = 1 show(3, -1) = 0"
            + " holds(3) = -1 element(3, 1) = 0 set(3, 1, 1) = -3 says(3, 0) = -3");
    }

    private static void rowSortsAndSizes() {
        Due.sentence(0, "A ROW has a SORT (0 bytes, 1 shorts, 2 ints, 3 longs) and 0 to 160 "
            + "elements, 0 at first; what is put in keeps its lowest bits.");
        Calls x = Calls.fresh().calls("row(0, -1, 1) = -6 row(0, 4, 1) = -6 holds(0) = -1");
        for (int sort = 0; sort < 4; sort++) {
            x.calls("row(0, " + sort + ", 0) = 1 holds(0) = " + (100 + sort) + " set(0, 0, 1) = -5"
                + " row(0, " + sort + ", 1) = 1 element(0, 0) = 0 set(0, 0, 1) = 1 set(0, 1, 1) = -5"
                + " row(0, " + sort + ", 160) = 1 element(0, 0) = 0 element(0, 159) = 0"
                + " set(0, 159, 1) = 1 set(0, 160, 1) = -5 row(0, " + sort + ", -1) = -4"
                + " row(0, " + sort + ", 161) = -7 element(0, 159) = 1");
        }
        x = Calls.fresh().calls("row(5, 3, 160) = 1");
        for (int i = 0; i < 160; i++) {
            x.calls("set(5, " + i + ", " + (i + 7) + ") = 1");
        }
        x.calls("element(5, 0) = 7 element(5, 80) = 87 element(5, 159) = 166 row(5, 3, 160) = 1");
        for (int i = 0; i < 160; i++) {
            x.calls("element(5, " + i + ") = 0");
        }
        Calls.fresh().row(5, 2, 1, 2, 3, 4).calls("row(5, 2, 1) = 1 row(5, 2, 4) = 1"
            + " element(5, 0) = 0 element(5, 1) = 0 element(5, 3) = 0");
    }

    private static void put(int sort, long v, long kept) {
        Calls.fresh().calls("row(0, " + sort + ", 3) = 1 set(0, 1, " + v + ") = 1 element(0, 1) = "
            + kept + " element(0, 0) = 0 element(0, 2) = 0");
    }

    private static void lowestBits() {
        Due.sentence(0, "what is put in keeps its lowest bits.");
        long[] bits = {8, 16, 32};
        for (int sort = 0; sort < 3; sort++) {
            long half = 1L << bits[sort] - 1;
            put(sort, half - 1, half - 1);
            put(sort, half, -half);
            put(sort, -half, -half);
            put(sort, -half - 1, half - 1);
            put(sort, 2 * half - 1, -1);
            put(sort, 2 * half, 0);
            put(sort, 2 * half + 1, 1);
            put(sort, -2 * half, 0);
            put(sort, Long.MAX_VALUE, -1);
            put(sort, Long.MIN_VALUE, 0);
        }
        put(3, Long.MAX_VALUE, Long.MAX_VALUE);
        put(3, Long.MIN_VALUE, Long.MIN_VALUE);
        put(3, -1, -1);
    }

    private static void asInts() {
        Due.sentence(0, "(As ints: of longs the lowest 32 bits.)");
        long round = 1L << 32;
        Calls.fresh().row(0, 3, round + 440, 5 * round + 2, -round + 880, 16 - round)
            .calls("tune(0, 2) = 0 noteOf(0, 0, 0) = 440 noteOf(0, 0, 1) = 2 noteOf(0, 1, 0) = 880"
                + " noteOf(0, 1, 1) = 16");
        Calls.fresh().row(0, 3, round / 2 + 440, 1).calls("tune(0, 1) = -6");
        Calls.fresh().row(0, 3, round + 6, round + 60, -round, 3 * round + 1)
            .calls("stretches(0, 0, 4) = 1 stretchOf(0, 0) = 6 stretchOf(0, 1) = 60"
                + " stretchOf(0, 2) = 0 stretchOf(0, 3) = 1");
        Calls.fresh().row(0, 3, 1, round / 2 + 8, 0, 1).calls("stretches(0, 0, 4) = 0");
        Calls.fresh().row(0, 3, round + 't', 'u' - round, 'n', 'e').calls("book(0) = 1");
        Calls.fresh().row(0, 3, 't', 'u', 'n' + round / 2, 'e').calls("book(0) = -6 fault() = 2");
        Calls.fresh().row(0, 1, 't', 'u' + 256, 'n', 'e').calls("book(0) = -6 fault() = 1");
        Calls.fresh().row(0, 2, 't', 'u', 'n', 'e' + 65536).calls("book(0) = -6 fault() = 3");
        Calls.fresh().row(0, 0, 't' + 256, 'u' - 256, 'n', 'e').calls("book(0) = 1");
    }

    private static void row() {
        Due.sentence(2, "SHELF s holds a new ROW: 1.");
        Calls.fresh().calls("row(0, 0, 0) = 1 row(7, 3, 160) = 1 holds(0) = 100 holds(7) = 103"
            + " set(7, 0, 5) row(7, 3, 160) = 1 element(7, 0) = 0 row(7, 0, 0) = 1 holds(7) = 100"
            + " stretch(0, 5, 0, 1) show(7, 0) row(7, 1, 1) = 1 holds(7) = 101 status(0) = 1");
    }

    private static void set() {
        Due.sentence(3, "Element i of the ROW becomes v: 1.");
        Calls.fresh().calls("row(0, 3, 160) set(0, 0, -9) = 1 set(0, 159, 8) = 1"
            + " element(0, 0) = -9 element(0, 1) = 0 element(0, 158) = 0 element(0, 159) = 8"
            + " set(0, -1, 3) = -5 set(0, 160, 3) = -5 set(0, 0, 7) = 1 element(0, 0) = 7"
            + " row(1, 0, 1) set(1, 0, 4) = 1 set(1, 1, 4) = -5 row(2, 0, 0) set(2, 0, 4) = -5");
    }

    private static final String COPIED = "Elements i, i + 1, .. of the ROW in SHELF p, n of them, "
        + "come to elements j, j + 1, .. of that in q (as they were ahead): 1.";

    private static void copyAll() {
        Due.sentence(4, COPIED);
        Calls.fresh().calls("row(0, 1, 160) row(1, 1, 160) set(0, 0, 5) set(0, 159, 6)"
            + " copy(0, 1, 0, 0, 160) = 1 element(1, 0) = 5 element(1, 159) = 6"
            + " copy(0, 1, 0, 0, 161) = -5 copy(0, 1, 1, 0, 160) = -5 copy(0, 1, 0, 1, 160) = -5"
            + " copy(0, 1, 159, 0, 1) = 1 element(1, 0) = 6 element(1, 1) = 0"
            + " copy(0, 1, 0, 159, 1) = 1 element(1, 159) = 5 element(0, 159) = 6");
        Calls.fresh().calls("row(0, 2, 0) row(1, 2, 0) row(2, 2, 2) copy(0, 1, 0, 0, 0) = 1"
            + " copy(0, 0, 0, 0, 0) = 1 copy(0, 2, 0, 2, 0) = 1 copy(2, 0, 2, 0, 0) = 1"
            + " copy(0, 2, 0, 0, 1) = -5 copy(2, 0, 0, 0, 1) = -5 copy(0, 2, 0, 3, 0) = -5"
            + " copy(2, 0, 3, 0, 0) = -5 copy(0, 2, -1, 0, 0) = -5 copy(0, 2, 0, -1, 0) = -5");
        Calls.fresh().row(0, 2, 1, 2, 3).row(1, 2, 7, 8, 9).calls("copy(0, 1, 1, 0, 2) = 1"
            + " element(1, 0) = 2 element(1, 1) = 3 element(1, 2) = 9 element(0, 0) = 1"
            + " element(0, 1) = 2 copy(0, 1, 0, 1, 0) = 1 element(1, 1) = 3");
    }

    private static void copyAsTheyWere() {
        Due.sentence(4, COPIED);
        Calls.fresh().row(0, 0, 1, 2, 3, 4).calls("copy(0, 0, 0, 1, 3) = 1 element(0, 0) = 1"
            + " element(0, 1) = 1 element(0, 2) = 2 element(0, 3) = 3");
        Calls.fresh().row(0, 3, 1, 2, 3, 4).calls("copy(0, 0, 1, 0, 3) = 1 element(0, 0) = 2"
            + " element(0, 1) = 3 element(0, 2) = 4 element(0, 3) = 4");
        Calls.fresh().row(0, 2, 1, 2, 3, 4).calls("copy(0, 0, 0, 0, 4) = 1 element(0, 0) = 1"
            + " element(0, 3) = 4");
    }

    private static void copyOfTwoSorts() {
        Due.sentence(4, "-2 also of two SORTS (when both hold something); -3 either;");
        for (int p = 0; p < 4; p++) {
            for (int q = 0; q < 4; q++) {
                Calls.fresh().calls("row(0, " + p + ", 1) row(1, " + q + ", 1) copy(0, 1, 0, 0, 1) = "
                    + (p == q ? 1 : -2) + " copy(0, 2, 0, 0, 1) = -3 copy(2, 1, 0, 0, 1) = -3"
                    + " copy(2, 3, 0, 0, 1) = -3");
            }
        }
    }

    private static void element() {
        Due.sentence(5, "Element i of the ROW; 0 if there is none (nothing is refused).");
        Calls x = Calls.fresh().calls("row(0, 3, 160) set(0, 0, 9223372036854775807)"
            + " set(0, 159, -9223372036854775808) element(0, 0) = 9223372036854775807"
            + " element(0, 159) = -9223372036854775808 element(0, -1) = 0 element(0, 160) = 0"
            + " element(0, MIN) = 0 element(0, MAX) = 0 element(-1, 0) = 0 element(8, 0) = 0"
            + " element(MAX, MIN) = 0 element(1, 0) = 0 row(2, 2, 2) set(2, 1, 5) row(2, 2, 1)"
            + " element(2, 1) = 0 row(3, 2, 0) element(3, 0) = 0 stretch(0, 5, 0, 1) show(0, 0)"
            + " element(0, 0) = 0 element(0, 159) = 0");
        for (int r = 11; r <= 17; r++) {
            x.calls("status(" + r + ") = 0");
        }
    }

    private static void show() {
        Due.sentence(6, "SHELF s holds a STRETCH, or NOTHING (stretch NONE): 1, 0.");
        Calls.full().calls("show(0, 15) = 1 holds(0) = 15 show(7, 0) = 1 holds(7) = 0"
            + " show(7, 15) = 1 holds(7) = 15 show(7, -1) = 0 holds(7) = -1 show(7, -1) = 0"
            + " holds(7) = -1 show(1, 16) = -1 show(1, -2) = -1 holds(1) = -1 status(0) = 16"
            + " row(1, 0, 1) show(1, -1) = 0 holds(1) = -1 show(2, 3) = 1 show(3, 3) = 1"
            + " holds(2) = 3 holds(3) = 3");
    }

    private static void goneStretches() {
        Due.sentence(0, "SHELVES hold STRETCHES of their numbers that there still are, or NOTHING.");
        Calls.full().calls("show(0, 15) show(1, 14) show(2, 14) show(3, 0) row(4, 2, 1) till(16)"
            + " holds(0) = 15 till(15) holds(0) = -1 holds(1) = 14 holds(2) = 14 holds(3) = 0"
            + " holds(4) = 102 stretch(0, 5, 0, 1) = 15 holds(0) = -1 says(0, 0) = -3 till(14)"
            + " holds(1) = -1 holds(2) = -1 holds(3) = 0 till(0) holds(3) = -1 holds(4) = 102");
        Calls.fresh().tune(704, 1, 0, 1).calls("stretch(0, 5, 0, 1) stretch(0, 5, 0, 1)"
            + " stretch(0, 5, 0, 1) show(0, 1) show(1, 2) lay(0, 10) holds(0) = 1 says(0, 3) = 14"
            + " holds(1) = -1");
        Calls.fresh().calls("stretch(0, 5, 0, 1) image() stretch(1, 6, 0, 1) show(0, 0) show(1, 1)"
            + " restore() = 1 holds(0) = 0 holds(1) = -1");
        Calls.fresh().calls("stretch(0, 5, 0, 1) stretch(1, 6, 0, 1) show(0, 1) image() till(1)"
            + " holds(0) = -1 restore() = 2 holds(0) = -1");
    }

    private static void holds() {
        Due.sentence(7, "What SHELF s holds: NONE NOTHING, or no such SHELF; a STRETCH's number; "
            + "100 and the SORT of a ROW.");
        Calls x = Calls.full().calls("holds(-1) = -1 holds(8) = -1 holds(MIN) = -1 holds(MAX) = -1"
            + " holds(7) = -1 status(11) = 0 show(7, 0) holds(7) = 0 show(7, 15) holds(7) = 15");
        for (int sort = 0; sort < 4; sort++) {
            x.calls("row(7, " + sort + ", 0) holds(7) = " + (100 + sort) + " row(7, " + sort
                + ", 160) holds(7) = " + (100 + sort));
        }
    }

    private static void says() {
        Due.sentence(8, "What the STRETCH in SHELF s, taken for one of a KIND, says: GROOVE LENGTH; "
            + "EVEN, DEEP SPACE; PAIR, SLANT SPACE and OTHER together; REST TIMES; TOLD OTHER.");
        Calls.fresh().calls("stretch(0, 7, 5, 3) stretch(1, 7, 5, 3) stretch(2, 7, 5, 3)"
            + " stretch(3, 7, 5, 3) stretch(4, 7, 5, 3) stretch(5, 7, 5, 3) stretch(6, 7, 5, 3)"
            + " show(0, 0) says(0, 0) = 21 says(0, 1) = -2 says(0, 3) = -2 says(0, 6) = -2"
            + " show(0, 1) says(0, 0) = 21 says(0, 1) = 7 says(0, 2) = -2 says(0, 4) = -2"
            + " show(0, 2) says(0, 0) = 36 says(0, 1) = 7 says(0, 2) = 12 says(0, 5) = -2"
            + " show(0, 3) says(0, 0) = 21 says(0, 3) = 3 says(0, 1) = -2 says(0, 6) = -2"
            + " show(0, 4) says(0, 0) = 21 says(0, 1) = 7 says(0, 4) = 7 says(0, 2) = -2"
            + " show(0, 5) says(0, 0) = 36 says(0, 1) = 7 says(0, 2) = 12 says(0, 5) = 12"
            + " says(0, 4) = -2 show(0, 6) says(0, 0) = 15 says(0, 6) = 5 says(0, 1) = -2"
            + " says(0, 3) = -2 says(0, -1) = -1 says(0, 7) = -1");
    }

    private static void saysAtTheEdges() {
        Due.sentence(8, "What the STRETCH in SHELF s, taken for one of a KIND, says:");
        Calls.fresh().calls("stretch(5, 60, 60, 60) stretch(5, 1, 0, 1) stretch(6, 60, 0, 60)"
            + " stretch(6, 1, 60, 60) stretch(3, 60, 60, 1) stretch(3, 1, 0, 60)"
            + " show(7, 0) says(7, 0) = 7200 says(7, 1) = 60 says(7, 2) = 120 says(7, 5) = 120"
            + " show(7, 1) says(7, 0) = 1 says(7, 1) = 1 says(7, 2) = 1 says(7, 5) = 1"
            + " show(7, 2) says(7, 0) = 0 says(7, 6) = 0 show(7, 3) says(7, 0) = 3600"
            + " says(7, 6) = 60 show(7, 4) says(7, 0) = 60 says(7, 3) = 1 show(7, 5) says(7, 0) = 60"
            + " says(7, 3) = 60");
    }
}
