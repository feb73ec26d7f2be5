/** The sentences on a BOOK, its NUMBERS and its FAULT that name an edge: promises 18 and 19. */
public final class BookEdgesTest {
    private static final String FIRST_PLACE = "The FAULT: the first place at which an element can't "
        + "stand as such texts go on (the number of elements, if it ends too early); of a NUMBER "
        + "that may not be the place of its first digit.";
    private static final String OVER = "All is told over what there is, or nothing (what there is no "
        + "room for, a note without a TUNE can't stand: its word; SHARES above 100: the NUMBER).";

    private BookEdgesTest() {
    }

    public static void main(String[] args) {
        itemsOfEachWord();
        howMany();
        numbersOfEachItem();
        digits();
        blanks();
        signsBetween();
        endsTooEarly();
        wordsThatBreak();
        faultAtTheEndOfAFullRow();
        tooManyStretches();
        tooManyCars();
        tooManyTunes();
        tooManyNotes();
        noteWithoutTune();
        sharesTogether();
        nothingIsTold();
        book();
        fault();
        Due.end("BookEdgesTest");
    }

    private static void itemsOfEachWord() {
        Due.sentence(0, "A BOOK is read from a ROW of letters: ITEM, then any number of times ; and "
            + "ITEM: even S N; pair S O N; rest S N; deep S N; slant S O N; told S O N; car V B H "
            + "(SPEED, BASE, SHARE); tune (a TUNE more, without notes); note P B (of the last TUNE); "
            + "long N; near N; borne N; tempo N.");
        stretchTold("even 2 3", 1, 0);
        stretchTold("pair 2 4 3", 2, 4);
        stretchTold("rest 2 3", 3, 0);
        stretchTold("deep 2 3", 4, 0);
        stretchTold("slant 2 4 3", 5, 4);
        stretchTold("told 2 4 3", 6, 4);
        Calls.fresh().book("car 2 3 4", 1).calls("carOf(0, 0) = 2 carOf(0, 1) = 3 carOf(0, 2) = 4");
        Calls.fresh().book("tune", 1).calls("status(2) = 1 noteOf(0, -1, 0) = 0");
        Calls.fresh().tune(1, 1).book("tune;note 2 3", 2).calls("status(2) = 2 noteOf(0, -1, 0) = 1"
            + " noteOf(1, -1, 0) = 1 noteOf(1, 0, 0) = 2 noteOf(1, 0, 1) = 3")
            .book("note 4 5", 1).calls("noteOf(0, -1, 0) = 1 noteOf(1, 1, 0) = 4");
        Calls.fresh().book("long 77", 1).calls("ask(0, 1) = 77");
        Calls.fresh().book("near 7", 1).calls("ask(1, 2) = 7");
        Calls.fresh().book("borne 77", 1).calls("ask(2, 1) = 77");
        Calls.fresh().book("tempo 77", 1).calls("ask(3, 50) = 77");
        Calls.fresh().faulty("groove 2 3", 0);
    }

    private static void stretchTold(String item, int kind, int other) {
        Calls.fresh().book(item, 1).calls("status(0) = 1 stretchOf(0, 0) = " + kind
            + " stretchOf(0, 1) = 2 stretchOf(0, 2) = " + other + " stretchOf(0, 3) = 3");
    }

    private static String often(String item, int times) {
        StringBuilder text = new StringBuilder(item);
        for (int i = 1; i < times; i++) {
            text.append(';').append(item);
        }
        return text.toString();
    }

    private static void howMany() {
        Due.sentence(18, "A BOOK by the ROW in SHELF s: how many ITEMS.");
        Calls.fresh().book("tune", 1);
        Calls.fresh().book("tune;tune", 2);
        // 22 times 7 elements and 6: a full ROW
        Calls.fresh().book(often("near 5", 23), 23).calls("set(7, 160, 0) = -5 ask(1, 2) = 5");
        Calls.fresh().book(often("even 1 1", 16), 16).calls("status(0) = 16");
        Calls.fresh().faulty("", 0);
        Calls.fresh().calls("row(0, 3, 0) book(0) = -6 fault() = 0");
    }

    /** An item with its first, second or third NUMBER as told, the others as they may be. */
    private static String withNumber(String word, int numbers, int which, int v) {
        StringBuilder text = new StringBuilder(word);
        for (int i = 0; i < numbers; i++) {
            text.append(' ').append(i == which ? v : 2);
        }
        return text.toString();
    }

    private static void numbersOfEachItem() {
        Due.sentence(0, FIRST_PLACE);
        String[] words = {"even", "rest", "deep", "pair", "slant", "told", "car", "note", "long",
            "near", "borne", "tempo"};
        int[][] bounds = {{1, 60, 1, 60}, {1, 60, 1, 60}, {1, 60, 1, 60}, {1, 60, 0, 60, 1, 60},
            {1, 60, 0, 60, 1, 60}, {1, 60, 0, 60, 1, 60}, {1, 99, 0, 999, 0, 100}, {0, 9999, 1, 16},
            {1, 9999}, {2, 30}, {0, 500}, {50, 2000}};
        for (int w = 0; w < words.length; w++) {
            for (int n = 0; 2 * n < bounds[w].length; n++) {
                numberOfItem(words[w], bounds[w].length / 2, n, bounds[w][2 * n],
                    bounds[w][2 * n + 1]);
            }
        }
    }

    private static void numberOfItem(String word, int numbers, int which, int least, int most) {
        int place = word.length() + 1 + 2 * which;
        Calls.fresh().tune(1, 1).book(withNumber(word, numbers, which, least), 1);
        Calls.fresh().tune(1, 1).book(withNumber(word, numbers, which, most), 1);
        if (least > 0) {
            Calls.fresh().tune(1, 1).faulty(withNumber(word, numbers, which, least - 1), place);
        }
        // of 10000 the fifth digit can't stand
        int over = most == 9999 ? place + 4 : place;
        String tooMuch = withNumber(word, numbers, which, most + 1);
        Calls.fresh().tune(1, 1).faulty(tooMuch, over).faulty(tooMuch + ";tune;x", over);
    }

    private static void digits() {
        Due.sentence(0, "One blank between words and NUMBERS (1 to 4 digits).");
        Calls.fresh().book("even 8 0002", 1).calls("stretchOf(0, 3) = 2");
        Calls.fresh().book("even 08 02", 1).calls("stretchOf(0, 1) = 8 stretchOf(0, 3) = 2");
        Calls.fresh().book("even 008 2", 1).calls("stretchOf(0, 1) = 8");
        Calls.fresh().book("even 0060 0060", 1).calls("stretchOf(0, 4) = 3600");
        Calls.fresh().book("borne 0000", 1).calls("ask(2, 1) = 0");
        Calls.fresh().book("long 9999", 1).calls("ask(0, 1) = 9999");
        Calls.fresh().faulty("long 99990", 9).faulty("long 00011", 9).faulty("borne 00000", 10)
            .faulty("even 00081 2", 9).faulty("even 8 00021", 11).faulty("long  1", 5)
            .faulty("long ;", 5).faulty("even  2", 5);
        // a sign ahead of the digits and behind them
        Calls.fresh().faulty("long /1", 5).faulty("long :1", 5).faulty("long 1/", 6)
            .faulty("long 1:", 6).faulty("long -1", 5).faulty("long +1", 5);
    }

    private static void blanks() {
        Due.sentence(0, "One blank between words and NUMBERS (1 to 4 digits).");
        Calls.fresh().book("even 8 2", 1);
        Calls.fresh().faulty("even8 2", 4).faulty("even  8 2", 5).faulty("even 8  2", 7)
            .faulty("even 82", 5).faulty("even 12", 7).faulty("even\t8 2", 4)
            .faulty("even 8\t2", 6).faulty("even 8!2", 6).faulty("even 8 2 ", 8)
            .faulty(" even 8 2", 0).faulty("even 8 2 ;tune", 8).faulty("even 8 2; tune", 9)
            .faulty("tune ", 4).faulty("tune 1", 4);
    }

    private static void signsBetween() {
        Due.sentence(0, "ITEM, then any number of times ; and ITEM:");
        Calls.fresh().book("tune;tune;tune;tune;tune;tune", 6);
        Calls.fresh().faulty(";", 0).faulty(";tune", 0).faulty("tune;", 5).faulty("tune;;tune", 5)
            .faulty("tune:tune", 4).faulty("tunetune", 4).faulty("even 8 2:tune", 8)
            .faulty("even 8 2<tune", 8).faulty("even 8 2;", 9).faulty("near 5;near 6;", 14);
    }

    private static void endsTooEarly() {
        Due.sentence(0, "(the number of elements, if it ends too early)");
        String whole = "tune;note 1 2;slant 3 4 5;borne 6";
        // ends at which it is a BOOK: behind an ITEM, and behind a first digit of several none
        int[] books = {4, 13, 25, 33};
        for (int end = 0; end <= whole.length(); end++) {
            boolean isBook = false;
            for (int b : books) {
                isBook |= b == end;
            }
            Calls.fresh().letters(0, whole.substring(0, end)).calls(isBook ? "book(0) fault() = -1"
                : "book(0) = -6 fault() = " + end + " status(0) = 0 status(2) = 0");
        }
    }

    private static void wordsThatBreak() {
        Due.sentence(0, FIRST_PLACE);
        String[] words = {"even", "pair", "rest", "deep", "slant", "told", "car", "tune", "note",
            "long", "near", "borne", "tempo"};
        for (String word : words) {
            for (int i = 0; i < word.length(); i++) {
                Calls.fresh().letters(0, "tune;" + word.substring(0, i) + "z")
                    .calls("book(0) = -6 fault() = " + (5 + i) + " status(2) = 0");
                String upper = word.substring(0, i) + Character.toUpperCase(word.charAt(i));
                Calls.fresh().letters(0, upper).calls("book(0) = -6 fault() = " + i);
            }
            Calls.fresh().letters(0, "tune;" + word + "z")
                .calls("book(0) = -6 fault() = " + (5 + word.length()) + " status(2) = 0");
        }
        // from one word's letters to another's
        Calls.fresh().faulty("tempune", 4).faulty("tunpo 50", 3).faulty("told", 4)
            .faulty("nete 1 1", 2).faulty("noar 5", 2).faulty("dear 1", 2);
    }

    private static void faultAtTheEndOfAFullRow() {
        Due.sentence(0, FIRST_PLACE);
        String full = often("near 5", 22);
        Calls.fresh().letters(7, full + ";borne ").calls("set(7, 159, 32) = 1 set(7, 160, 0) = -5"
            + " book(7) = -6 fault() = 160");
        Calls.fresh().letters(7, full + ";nearx").calls("book(7) = -6 fault() = 158");
        Calls.fresh().letters(7, full + ";near x").calls("book(7) = -6 fault() = 159");
        Calls.fresh().letters(7, full + ";near 1").calls("book(7) = -6 fault() = 159");
        Calls.fresh().letters(7, full + ";near 2").calls("book(7) = 23 fault() = -1");
        Calls.fresh().letters(7, full + ";tune;").calls("book(7) = -6 fault() = 159");
    }

    private static Calls ofStretches(int count) {
        Calls x = Calls.fresh();
        for (int i = 0; i < count; i++) {
            x.calls("stretch(0, 5, 0, 1)");
        }
        return x;
    }

    private static void tooManyStretches() {
        Due.sentence(0, OVER);
        ofStretches(15).book("even 1 1", 1).calls("status(0) = 16");
        String[] items = {"even 1 1", "pair 1 1 1", "rest 1 1", "deep 1 1", "slant 1 1 1",
            "told 1 1 1"};
        for (String item : items) {
            ofStretches(16).faulty(item, 0).faulty("tune;" + item, 5);
            ofStretches(15).faulty(item + ";" + item, item.length() + 1).book(item, 1);
        }
        ofStretches(16).faulty("even 0 1", 0).book("tune;note 1 1;car 1 1 1;near 5", 4);
        Calls.fresh().letters(7, often("even 1 1", 17)).calls("book(7) = -6 fault() = 144"
            + " status(0) = 0");
    }

    private static void tooManyCars() {
        Due.sentence(0, OVER);
        Calls.fresh().book(often("car 1 1 1", 6), 6).faulty("car 1 1 1", 0)
            .faulty("car 1 1 99", 0).faulty("near 5;car 1 1 1", 7);
        Calls.fresh().faulty(often("car 1 1 1", 7), 60);
    }

    private static void tooManyTunes() {
        Due.sentence(0, OVER);
        Calls.fresh().book(often("tune", 6), 6).faulty("tune", 0).faulty("note 1 1;tune", 9)
            .book("note 1 1", 1).calls("noteOf(5, -1, 0) = 1 noteOf(4, -1, 0) = 0");
        Calls.fresh().faulty(often("tune", 7), 30);
    }

    private static void tooManyNotes() {
        Due.sentence(0, OVER);
        Calls.fresh().book("tune;" + often("note 1 1", 12), 13).faulty("note 1 1", 0)
            .faulty("near 5;note 1 1", 7).faulty("note 10000 1", 0)
            .book("tune;note 1 1", 2).calls("noteOf(0, -1, 0) = 12 noteOf(1, -1, 0) = 1");
        Calls.fresh().faulty("tune;" + often("note 1 1", 13), 113);
        Calls.fresh().tune(1, 1, 1, 1, 1, 1, 1, 1, 1, 1, 1, 1, 1, 1, 1, 1, 1, 1, 1, 1, 1, 1)
            .book("note 9999 16", 1).calls("noteOf(0, -1, 0) = 12 noteOf(0, 11, 0) = 9999")
            .faulty("note 1 1", 0);
    }

    private static void noteWithoutTune() {
        Due.sentence(0, OVER);
        Calls.fresh().faulty("note 1 1", 0).faulty("note 1 1;tune", 0).faulty("near 5;note 1 1", 7)
            .faulty("note", 0).faulty("notx", 3).faulty("not", 3).book("tune;note 1 1", 2);
    }

    private static void sharesTogether() {
        Due.sentence(0, OVER);
        Calls.fresh().calls("car(1, 0, 60)").faulty("car 1 0 41", 8).faulty("car 1 0 100", 8)
            .faulty("car 1 0 20;car 1 0 21", 19).book("car 1 0 40", 1).calls("status(4) = 100")
            .faulty("car 1 0 1", 8).faulty("car 1 0 001", 8).book("car 1 0 0", 1);
        Calls.fresh().faulty("car 1 0 101", 8).book("car 1 0 100", 1);
        Calls.fresh().faulty("car 1 0 50;car 1 0 51", 19).book("car 1 0 50;car 1 0 50", 2)
            .calls("status(4) = 100 status(1) = 2");
    }

    private static void nothingIsTold() {
        Due.sentence(0, "All is told over what there is, or nothing");
        Calls.filled().faulty("even 5 5;car 9 9 5;note 6 6;tune;note 7 7;long 1;near 2;borne 3;"
            + "tempo 51;x", 73);
        Calls.filled().faulty("note 7 7;note 8 8;tune;note 1 17", 30);
        Calls.filled().book("even 5 5;car 9 9 5;note 6 6;tune;note 7 7;long 1;near 2;borne 3;"
            + "tempo 51", 9).calls("status(0) = 5 stretchOf(4, 1) = 5 status(1) = 4 status(4) = 100"
            + " status(2) = 4 noteOf(2, -1, 0) = 3 noteOf(2, 2, 0) = 6 noteOf(3, 0, 1) = 7"
            + " ask(0, 1) = 1 ask(1, 2) = 2 ask(2, 3) = 3 ask(3, 50) = 51 stretchOf(3, 1) = 10"
            + " status(5) = -9 holds(4) = 1 holds(5) = 3");
    }

    private static void book() {
        Due.sentence(18, "A BOOK by the ROW in SHELF s:");
        Calls.fresh().letters(0, "tune").letters(7, "near 9;tune").calls("book(0) = 1 book(7) = 2"
            + " book(8) = -1 book(-1) = -1 book(1) = -3 status(2) = 2 ask(1, 4) = 9");
    }

    private static void fault() {
        Due.sentence(19, "The FAULT of the latest book() that came to a ROW; NONE: there was none, "
            + "or none yet.");
        Calls.fresh().calls("fault() = -1 stretch(0, 5, 0, 1) show(1, 0) book(8) = -1 fault() = -1"
            + " book(1) = -2 fault() = -1 book(2) = -3 fault() = -1").letters(0, "tux")
            .calls("book(0) = -6 fault() = 2 book(8) = -1 fault() = 2 book(1) = -2 fault() = 2"
                + " book(2) = -3 fault() = 2 fault() = 2 set(0, 0, 120) book(0) = -6 fault() = 0"
                + " row(3, 0, 0) book(3) = -6 fault() = 0")
            .letters(0, "tune").calls("fault() = 0 book(0) = 1 fault() = -1 book(2) = -3"
                + " fault() = -1 tune(0, 9) = -5 fault() = -1");
    }
}
