/** Promises 18 and 19: BOOKS and their FAULTS. */
public final class BookTest {
    private BookTest() {
    }

    public static void main(String[] args) {
        items();
        toldOver();
        sorts();
        refused();
        words();
        numbers();
        ends();
        room();
        nothingTold();
        latest();
        Due.end("BookTest");
    }

    private static void items() {
        Due.promise(18, "book");
        RoadThatSings x = new RoadThatSings();
        Due.due("stretches", Due.book(x, "even 8 2;pair 9 4 3;rest 7 1;deep 60 60;"
            + "slant 1 0 1;told 0009 60 0003"), 6);
        int[][] due = {{1, 8, 0, 2}, {2, 9, 4, 3}, {3, 7, 0, 1}, {4, 60, 0, 60}, {5, 1, 0, 1},
            {6, 9, 60, 3}};
        for (int i = 0; i < due.length; i++) {
            for (int what = 0; what < 4; what++) {
                Due.due("stretchOf(" + i + ", " + what + ")", x.stretchOf(i, what), due[i][what]);
            }
        }
        Due.due("cars and tunes", Due.book(x, "car 99 999 100;tune;note 9999 16;note 0 1;tune"), 5);
        Due.due("CARS", x.status(1), 1);
        Due.due("SPEED", x.carOf(0, 0), 99);
        Due.due("BASE", x.carOf(0, 1), 999);
        Due.due("SHARE", x.carOf(0, 2), 100);
        Due.due("TUNES", x.status(2), 2);
        Due.due("notes", x.noteOf(0, -1, 0), 2);
        Due.due("BEATS", x.noteOf(0, -1, 1), 17);
        Due.due("notes", x.noteOf(1, -1, 0), 0);
        Due.due("asked", Due.book(x, "long 9999;near 30;borne 0;tempo 50"), 4);
        Due.due("LONG", x.ask(0, 1), 9999);
        Due.due("NEAR", x.ask(1, 2), 30);
        Due.due("BORNE", x.ask(2, 1), 0);
        Due.due("TEMPO", x.ask(3, 51), 50);
        Due.due("the later holds", Due.book(x, "near 7;near 8"), 2);
        Due.due("NEAR", x.ask(1, 2), 8);
    }

    private static void toldOver() {
        Due.promise(18, "book");
        RoadThatSings x = new RoadThatSings();
        x.stretch(0, 5, 0, 5);
        x.car(1, 1, 30);
        Due.tune(x, 440, 1);
        Due.due("over what there is", Due.book(x, "note 880 2;even 6 6;car 2 2 70"), 3);
        Due.due("notes", x.noteOf(0, -1, 0), 2);
        Due.due("PITCH", x.noteOf(0, 1, 0), 880);
        Due.due("SPACE", x.stretchOf(1, 1), 6);
        Due.due("SHARES", x.status(4), 100);
        Due.due("STRETCHES", x.status(0), 2);
    }

    private static void sorts() {
        Due.promise(18, "book");
        RoadThatSings x = new RoadThatSings();
        for (int sort = 0; sort < 4; sort++) {
            Due.letters(x, 2, sort, "tune");
            Due.due("letters of sort " + sort, x.book(2), 1);
        }
        Due.letters(x, 2, 3, "tune");
        x.set(2, 0, 0x500000000L + 't');
        Due.due("lowest 32 bits", x.book(2), 1);
        Due.letters(x, 2, 2, "tune");
        x.set(2, 1, 256 + 'u');
        Due.due("no letter", x.book(2), -6);
        Due.due("fault()", x.fault(), 1);
        Due.letters(x, 2, 0, "tune");
        x.set(2, 3, -1);
        Due.due("no letter", x.book(2), -6);
        Due.due("fault()", x.fault(), 3);
    }

    private static void refused() {
        Due.promise(18, "book");
        RoadThatSings x = new RoadThatSings();
        x.stretch(0, 1, 0, 1);
        x.show(1, 0);
        Due.due("no shelf", x.book(8), -1);
        Due.due("no shelf", x.book(-1), -1);
        Due.due("a stretch", x.book(1), -2);
        Due.due("nothing", x.book(0), -3);
        Due.due("fault()", x.fault(), -1);
        Due.due("a fault", Due.book(x, "x"), -6);
        Due.refused(x, -1, 2);
        Due.refused(x, -2, 1);
        Due.refused(x, -3, 1);
        Due.refused(x, -6, 1);
    }

    private static void faulty(String text, int fault) {
        RoadThatSings x = new RoadThatSings();
        Due.due("book of '" + text + "'", Due.book(x, text), -6);
        Due.due("fault() of '" + text + "'", x.fault(), fault);
    }

    private static void words() {
        Due.promise(19, "fault");
        faulty("x", 0);
        faulty(" even 1 1", 0);
        faulty("Even 1 1", 0);
        faulty("evn 1 1", 2);
        faulty("evenx", 4);
        faulty("tuna", 3);
        faulty("tampo 50", 1);
        faulty("tempa 50", 4);
        faulty("tolx", 3);
        faulty("nore", 2);
        faulty("neat 4", 3);
        faulty("borna 1", 4);
        faulty("groove 1 1", 0);
        faulty("tune ", 4);
        faulty("tune 1", 4);
        faulty("tune; tune", 5);
        faulty("tune;;tune", 5);
        faulty("tune,tune", 4);
        faulty("tunetune", 4);
        faulty(";tune", 0);
    }

    private static void numbers() {
        Due.promise(19, "fault");
        faulty("even  1 1", 5);
        faulty("even x 1", 5);
        faulty("even 1x 1", 6);
        faulty("even 1;1", 6);
        faulty("even 1 1 1", 8);
        faulty("even 1 1 ", 8);
        faulty("even 0 1", 5);
        faulty("even 61 1", 5);
        faulty("even 1 0", 7);
        faulty("even 1 61", 7);
        faulty("even -1 1", 5);
        faulty("even 00011 1", 9);
        faulty("even 00001 1", 5);
        faulty("long 12345", 9);
        faulty("even 99999 1", 5);
        faulty("pair 1 61 1", 7);
        faulty("told 1 60 0", 10);
        faulty("slant 1 1", 9);
        faulty("car 0 0 0", 4);
        faulty("car 100 0 0", 4);
        faulty("car 1 1000 0", 6);
        faulty("car 1 0 101", 8);
        faulty("car 1 0 60;car 1 0 41", 19);
        faulty("tune;note 10000 1", 14);
        faulty("tune;note 1 0", 12);
        faulty("tune;note 1 17", 12);
        faulty("long 0", 5);
        faulty("near 1", 5);
        faulty("near 31", 5);
        faulty("borne 501", 6);
        faulty("tempo 49", 6);
        faulty("tempo 2001", 6);
    }

    private static void ends() {
        Due.promise(19, "fault");
        faulty("", 0);
        faulty("t", 1);
        faulty("tun", 3);
        faulty("tune;", 5);
        faulty("tune;no", 7);
        faulty("even", 4);
        faulty("even ", 5);
        faulty("even 5", 6);
        faulty("even 5 ", 7);
        faulty("pair 5 5", 8);
        faulty("even 99", 5);
    }

    private static String often(String item, int times) {
        StringBuilder text = new StringBuilder(item);
        for (int i = 1; i < times; i++) {
            text.append(';').append(item);
        }
        return text.toString();
    }

    private static void room() {
        Due.promise(19, "fault");
        RoadThatSings x = new RoadThatSings();
        Due.due("16 stretches", Due.book(x, often("even 1 1", 16)), 16);
        Due.due("one more", Due.book(x, "near 5;rest 1 1"), -6);
        Due.due("its word", x.fault(), 7);
        Due.due("not yet its word", Due.book(x, "near 5;reft"), -6);
        Due.due("fault()", x.fault(), 9);
        Due.due("too early", Due.book(x, "near 5;res"), -6);
        Due.due("fault()", x.fault(), 10);
        faulty(often("even 1 1", 17), 16 * 9);
        faulty(often("car 1 1 1", 7), 60);
        Due.due("6 cars", Due.book(x, often("car 1 1 1", 6)), 6);
        Due.due("word ahead of SHARES", Due.book(x, "car 1 1 99"), -6);
        Due.due("fault()", x.fault(), 0);
        faulty("tune;" + often("note 1 1", 13), 5 + 12 * 9);
        faulty(often("tune", 7), 30);
        faulty("note 1 1", 0);
        faulty("noteX", 0);
        faulty("even 1 1;note 1 1;tune", 9);
    }

    private static void nothingTold() {
        Due.promise(18, "book");
        RoadThatSings x = new RoadThatSings();
        Due.book(x, "even 5 5;car 9 9 9;tune;note 1 1;near 9");
        Due.due("a fault at the end", Due.book(x, "note 2 2;tune;note 3 3;car 1 1 1;even 1 1;"
            + "long 1;near 2;borne 3;tempo 50;even 1 1;x"), -6);
        Due.due("STRETCHES", x.status(0), 1);
        Due.due("SPACE", x.stretchOf(0, 1), 5);
        Due.due("CARS", x.status(1), 1);
        Due.due("TUNES", x.status(2), 1);
        Due.due("notes", x.noteOf(0, -1, 0), 1);
        Due.due("LONG", x.ask(0, 2000), 2000);
        Due.due("NEAR", x.ask(1, 4), 9);
        Due.due("BORNE", x.ask(2, 20), 20);
        Due.due("TEMPO", x.ask(3, 200), 200);
    }

    private static void latest() {
        Due.promise(19, "fault");
        RoadThatSings x = new RoadThatSings();
        Due.book(x, "ev");
        Due.due("fault()", x.fault(), 2);
        x.book(9);
        x.book(0);
        Due.due("none that came to a row", x.fault(), 2);
        Due.book(x, "tune");
        Due.due("none now", x.fault(), -1);
    }
}
