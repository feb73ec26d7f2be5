/** What the tests share: answers held against those that are due, and rows made from texts. */
final class Due {
    private static int checked = 0;
    private static int wrong = 0;
    private static String promise = "";

    private Due() {
    }

    /** Names the promise that the next calls are about. */
    static void promise(int number, String name) {
        promise = "promise " + number + " (" + name + ")";
    }

    static void about(String what) {
        promise = what;
    }

    /** What runs is about this, too. */
    static void about(String what, Runnable answers) {
        String before = promise;
        promise = before + ", " + what;
        answers.run();
        promise = before;
    }

    /** Names the document's sentence that the next calls are about, of its terms or of a promise. */
    static void sentence(int number, String words) {
        String place = number == Document.TERMS ? "terms" : "promise " + number;
        promise = place + " (" + words + ")";
        holds("it stands in the document", Document.tells(number, words));
    }

    static void due(String call, long got, long want) {
        checked++;
        if (got != want) {
            wrong++;
            System.out.println(promise + ": " + call + " answered " + got + ", due is " + want);
        }
    }

    static void holds(String what, boolean so) {
        due(what, so ? 1 : 0, 1);
    }

    static void same(String what, String got, String want) {
        checked++;
        if (!got.equals(want)) {
            wrong++;
            System.out.println(promise + ": " + what + " is" + got + ", due is" + want);
        }
    }

    /** How often the refusal (-1 to -7) was counted. */
    static void refused(RoadThatSings x, int refusal, int times) {
        due("status(" + (10 - refusal) + ")", x.status(10 - refusal), times);
    }

    static void end(String test) {
        System.out.println(test + ": " + checked + " answers, " + wrong + " wrong");
        if (wrong != 0) {
            System.exit(1);
        }
    }

    /** SHELF s holds the text's letters in a ROW of a SORT. */
    static void letters(RoadThatSings x, int s, int sort, String text) {
        x.row(s, sort, text.length());
        for (int i = 0; i < text.length(); i++) {
            x.set(s, i, text.charAt(i));
        }
    }

    static int book(RoadThatSings x, String text) {
        letters(x, 7, 0, text);
        return x.book(7);
    }

    /** SHELF s holds a ROW of ints with these elements. */
    static void ints(RoadThatSings x, int s, long... elements) {
        x.row(s, 2, elements.length);
        for (int i = 0; i < elements.length; i++) {
            x.set(s, i, elements[i]);
        }
    }

    /** A TUNE of notes, each PITCH and BEATS: its number. */
    static int tune(RoadThatSings x, long... notes) {
        ints(x, 7, notes);
        return x.tune(7, notes.length / 2);
    }
}
