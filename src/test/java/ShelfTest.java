/** Promises 1 to 8: a new object, and SHELVES with ROWS and STRETCHES. */
public final class ShelfTest {
    private ShelfTest() {
    }

    public static void main(String[] args) {
        newObject();
        row();
        set();
        copy();
        copyRefused();
        element();
        show();
        holds();
        says();
        saysRefused();
        Due.end("ShelfTest");
    }

    private static void newObject() {
        Due.promise(1, "a new object");
        RoadThatSings x = new RoadThatSings();
        Due.due("NONE", RoadThatSings.NONE, -1);
        for (int what = 0; what <= 4; what++) {
            Due.due("status(" + what + ")", x.status(what), 0);
        }
        Due.due("SEED", x.status(5), 1);
        Due.due("status(6)", x.status(6), 0);
        for (int refusal = -1; refusal >= -7; refusal--) {
            Due.refused(x, refusal, 0);
        }
        for (int s = 0; s < 8; s++) {
            Due.due("holds(" + s + ")", x.holds(s), -1);
        }
        Due.due("LONG", x.ask(0, 1), 2000);
        Due.due("NEAR", x.ask(1, 2), 4);
        Due.due("BORNE", x.ask(2, 0), 20);
        Due.due("TEMPO", x.ask(3, 50), 200);
        Due.due("fault()", x.fault(), -1);
        Due.due("trace(0)", x.trace(0), -1);
        Due.due("restore()", x.restore(), -6);
    }

    private static void row() {
        Due.promise(2, "row");
        RoadThatSings x = new RoadThatSings();
        for (int sort = 0; sort < 4; sort++) {
            Due.due("row", x.row(7, sort, 160), 1);
            Due.due("holds", x.holds(7), 100 + sort);
        }
        Due.due("element there", x.set(7, 159, 5), 1);
        Due.due("row anew", x.row(7, 3, 160), 1);
        Due.due("0 at first", x.element(7, 159), 0);
        Due.due("row of none", x.row(0, 0, 0), 1);
        Due.due("holds", x.holds(0), 100);
        Due.due("no element", x.set(0, 0, 1), -5);
        Due.due("no shelf", x.row(-1, 9, -1), -1);
        Due.due("no shelf", x.row(8, 0, 1), -1);
        Due.due("below ahead of sort", x.row(0, 9, -1), -4);
        Due.due("sort ahead of room", x.row(0, 4, 161), -6);
        Due.due("sort", x.row(0, -1, 1), -6);
        Due.due("room", x.row(0, 0, 161), -7);
        Due.due("refused: as it was", x.holds(0), 100);
        Due.refused(x, -1, 2);
        Due.refused(x, -4, 1);
        Due.refused(x, -6, 2);
        Due.refused(x, -7, 1);
        x.stretch(1, 8, 0, 1);
        x.show(3, 0);
        Due.due("over a stretch", x.row(3, 1, 2), 1);
        Due.due("holds", x.holds(3), 101);
    }

    private static void set() {
        Due.promise(3, "set");
        RoadThatSings x = new RoadThatSings();
        long v = 0x123456789ABCDEF0L;
        long[] kept = {(byte) 0xF0, (short) 0xDEF0, 0x9ABCDEF0, v};
        for (int sort = 0; sort < 4; sort++) {
            x.row(sort, sort, 3);
            Due.due("set", x.set(sort, 2, v), 1);
            Due.due("lowest bits", x.element(sort, 2), kept[sort]);
            Due.due("its neighbour", x.element(sort, 1), 0);
        }
        Due.due("no shelf", x.set(8, 0, 0), -1);
        Due.due("no shelf", x.set(-1, 0, 0), -1);
        Due.due("nothing", x.set(5, 0, 0), -3);
        Due.due("beyond", x.set(0, 3, 0), -5);
        Due.due("beyond", x.set(0, -1, 0), -5);
        Due.due("beyond", x.set(0, Integer.MAX_VALUE, 0), -5);
        x.stretch(0, 1, 0, 1);
        x.show(0, 0);
        Due.due("a stretch", x.set(0, 9, 0), -2);
        Due.refused(x, -1, 2);
        Due.refused(x, -2, 1);
        Due.refused(x, -3, 1);
        Due.refused(x, -5, 3);
    }

    private static void copy() {
        Due.promise(4, "copy");
        RoadThatSings x = new RoadThatSings();
        Due.ints(x, 0, 1, 2, 3, 4, 5);
        Due.ints(x, 1, 9, 9, 9);
        Due.due("copy", x.copy(0, 1, 3, 0, 2), 1);
        Due.due("came", x.element(1, 0), 4);
        Due.due("came", x.element(1, 1), 5);
        Due.due("stayed", x.element(1, 2), 9);
        Due.due("over itself", x.copy(0, 0, 0, 1, 4), 1);
        for (int i = 0; i < 5; i++) {
            Due.due("as ahead", x.element(0, i), i == 0 ? 1 : i);
        }
        Due.due("back over itself", x.copy(0, 0, 1, 0, 4), 1);
        long[] back = {1, 2, 3, 4, 4};
        for (int i = 0; i < 5; i++) {
            Due.due("as ahead", x.element(0, i), back[i]);
        }
        Due.due("none at the end", x.copy(0, 1, 5, 3, 0), 1);
        Due.due("all", x.copy(1, 0, 0, 2, 3), 1);
    }

    private static void copyRefused() {
        Due.promise(4, "copy");
        RoadThatSings x = new RoadThatSings();
        x.row(0, 2, 5);
        x.row(1, 1, 3);
        x.row(2, 2, 3);
        x.stretch(0, 1, 0, 1);
        x.show(3, 0);
        Due.due("no shelf", x.copy(8, 0, 0, 0, 1), -1);
        Due.due("no shelf", x.copy(3, -1, 0, 0, 1), -1);
        Due.due("two sorts", x.copy(0, 1, 0, 0, -1), -2);
        Due.due("from a stretch", x.copy(3, 0, 0, 0, 1), -2);
        Due.due("to a stretch", x.copy(0, 3, 0, 0, 1), -2);
        Due.due("a stretch ahead of nothing", x.copy(4, 3, 0, 0, 1), -2);
        Due.due("from nothing", x.copy(4, 0, 0, 0, -1), -3);
        Due.due("to nothing", x.copy(0, 4, 0, 0, 1), -3);
        Due.due("both nothing", x.copy(4, 5, 0, 0, 1), -3);
        Due.due("below", x.copy(0, 2, -1, 0, -1), -4);
        Due.due("i below 0", x.copy(0, 2, -1, 0, 0), -5);
        Due.due("j below 0", x.copy(0, 2, 0, -1, 0), -5);
        Due.due("an end beyond", x.copy(0, 2, 4, 0, 2), -5);
        Due.due("an end beyond", x.copy(0, 2, 0, 2, 2), -5);
        Due.due("an end beyond", x.copy(0, 2, 6, 0, 0), -5);
        Due.due("far beyond", x.copy(0, 2, 1, 1, Integer.MAX_VALUE), -5);
        Due.due("far beyond", x.copy(0, 2, Integer.MAX_VALUE, 0, 1), -5);
        Due.refused(x, -1, 2);
        Due.refused(x, -2, 4);
        Due.refused(x, -3, 3);
        Due.refused(x, -4, 1);
        Due.refused(x, -5, 7);
    }

    private static void element() {
        Due.promise(5, "element");
        RoadThatSings x = new RoadThatSings();
        x.row(2, 3, 2);
        x.set(2, 1, Long.MIN_VALUE);
        Due.due("element", x.element(2, 1), Long.MIN_VALUE);
        Due.due("element", x.element(2, 0), 0);
        Due.due("none", x.element(2, 2), 0);
        Due.due("none", x.element(2, -1), 0);
        Due.due("no shelf", x.element(8, 0), 0);
        Due.due("no shelf", x.element(-1, 0), 0);
        Due.due("nothing", x.element(0, 0), 0);
        x.stretch(0, 7, 0, 3);
        x.set(2, 0, 77);
        x.show(2, 0);
        Due.due("of a stretch none", x.element(2, 0), 0);
        x.show(2, -1);
        Due.due("of nothing none", x.element(2, 0), 0);
        x.row(2, 3, 1);
        x.set(2, 0, 5);
        x.show(2, -1);
        Due.due("of nothing that was a row", x.element(2, 0), 0);
        for (int refusal = -1; refusal >= -7; refusal--) {
            Due.refused(x, refusal, 0);
        }
    }

    private static void show() {
        Due.promise(6, "show");
        RoadThatSings x = new RoadThatSings();
        x.stretch(0, 7, 0, 3);
        x.stretch(0, 7, 0, 3);
        Due.due("show", x.show(0, 1), 1);
        Due.due("holds", x.holds(0), 1);
        Due.due("another", x.show(0, 0), 1);
        Due.due("holds", x.holds(0), 0);
        Due.due("nothing", x.show(0, RoadThatSings.NONE), 0);
        Due.due("holds", x.holds(0), -1);
        x.row(0, 0, 1);
        Due.due("nothing over a row", x.show(0, -1), 0);
        Due.due("holds", x.holds(0), -1);
        Due.due("no stretch", x.show(0, 2), -1);
        Due.due("no stretch", x.show(0, -2), -1);
        Due.due("no shelf", x.show(8, 0), -1);
        Due.due("no shelf", x.show(-1, -1), -1);
        Due.refused(x, -1, 4);
    }

    private static void holds() {
        Due.promise(7, "holds");
        RoadThatSings x = new RoadThatSings();
        Due.due("nothing", x.holds(0), -1);
        Due.due("no shelf", x.holds(8), -1);
        Due.due("no shelf", x.holds(-1), -1);
        Due.refused(x, -1, 0);
        x.row(7, 3, 0);
        Due.due("longs", x.holds(7), 103);
        for (int i = 0; i < 16; i++) {
            x.stretch(0, 7, 0, 3);
        }
        x.show(7, 15);
        Due.due("the last stretch", x.holds(7), 15);
        x.show(6, 14);
        x.till(15);
        Due.due("gone", x.holds(7), -1);
        Due.due("still there", x.holds(6), 14);
        x.stretch(0, 7, 0, 3);
        Due.due("another of its number", x.holds(7), -1);
    }

    private static void says() {
        Due.promise(8, "says");
        RoadThatSings x = new RoadThatSings();
        // rows: a KIND with SPACE 9, OTHER 4, TIMES 3; columns: taken for
        int[][] due = {
            {27, -2, -2, -2, -2, -2, -2},
            {27, 9, -2, -2, -2, -2, -2},
            {39, 9, 13, -2, -2, -2, -2},
            {27, -2, -2, 3, -2, -2, -2},
            {27, 9, -2, -2, 9, -2, -2},
            {39, 9, 13, -2, -2, 13, -2},
            {12, -2, -2, -2, -2, -2, 4},
        };
        int refused = 0;
        for (int kind = 0; kind < 7; kind++) {
            x.stretch(kind, 9, 4, 3);
            x.show(0, kind);
            for (int taken = 0; taken < 7; taken++) {
                Due.due("says of " + kind + " for " + taken, x.says(0, taken), due[kind][taken]);
                refused += due[kind][taken] == -2 ? 1 : 0;
            }
        }
        Due.refused(x, -2, refused);
    }

    private static void saysRefused() {
        Due.promise(8, "says");
        RoadThatSings x = new RoadThatSings();
        x.row(1, 0, 1);
        Due.due("no shelf", x.says(8, 0), -1);
        Due.due("no shelf", x.says(-1, 0), -1);
        Due.due("no kind", x.says(1, 7), -1);
        Due.due("no kind", x.says(0, -1), -1);
        Due.due("a row", x.says(1, 0), -2);
        Due.due("nothing", x.says(0, 0), -3);
        Due.refused(x, -1, 4);
        Due.refused(x, -2, 1);
        Due.refused(x, -3, 1);
    }
}
