import java.util.regex.Matcher;
import java.util.regex.Pattern;

/**
 * Holds BOOKS' FAULTS (promises 18, 19) against a pattern of what may go on, and against a look at
 * each whole word and NUMBER ahead of the place where the pattern breaks.
 */
public final class FaultTest {
    private static final String NUMBER = "[0-9]{1,4}";
    private static final String ITEM = "((even|rest|deep|note) N N|(pair|slant|told|car) N N N|tune"
        + "|(long|near|borne|tempo) N)";
    private static final Pattern BOOK =
        Pattern.compile((ITEM + "(;" + ITEM + ")*").replace("N", NUMBER));
    private static final Pattern WORD =
        Pattern.compile("even|rest|deep|note|pair|slant|told|car|tune|long|near|borne|tempo");
    private static final Pattern DIGITS = Pattern.compile(NUMBER);
    private static final String[] WORDS = {"even", "pair", "rest", "deep", "slant", "told", "car",
        "tune", "note", "long", "near", "borne", "tempo"};

    private int stretches;
    private int cars;
    private int tunes;
    private int notes;
    private int shares;
    private int items;

    private FaultTest() {
    }

    public static void main(String[] args) {
        Draws draws = new Draws(19);
        for (int round = 0; round < 3000; round++) {
            RoadThatSings x = new RoadThatSings();
            FaultTest plain = new FaultTest();
            for (int i = 0; i < 4; i++) {
                plain.compare(x, text(draws));
            }
        }
        Due.end("FaultTest");
    }

    private static String text(Draws draws) {
        StringBuilder text = new StringBuilder();
        int many = draws.below(4) == 0 ? draws.below(20) : draws.below(6);
        for (int i = 0; i <= many; i++) {
            if (i > 0) {
                text.append(';');
            }
            String word = WORDS[draws.below(WORDS.length)];
            text.append(word);
            for (int n = numbersOf(word); n > 0; n--) {
                text.append(' ').append(number(draws));
            }
        }
        spoil(text, draws);
        return text.length() > 160 ? text.substring(0, 160) : text.toString();
    }

    private static String number(Draws draws) {
        int sort = draws.below(24);
        if (sort == 0) {
            return "0";
        }
        if (sort == 1) {
            return Integer.toString(draws.below(100000));
        }
        String number = Integer.toString(draws.from(1, sort < 4 ? 120 : 16));
        return sort == 5 ? "00" + number : number;
    }

    private static void spoil(StringBuilder text, Draws draws) {
        String signs = " ;0159aeoptunrd";
        for (int i = draws.below(4) == 0 ? draws.from(1, 2) : 0; i > 0; i--) {
            int at = draws.below(text.length());
            char sign = signs.charAt(draws.below(signs.length()));
            switch (draws.below(4)) {
                case 0: text.setCharAt(at, sign); break;
                case 1: text.insert(at, sign); break;
                case 2: text.deleteCharAt(at); break;
                default: text.setLength(at); break;
            }
            if (text.length() == 0) {
                return;
            }
        }
    }

    private static int numbersOf(String word) {
        switch (word) {
            case "tune": return 0;
            case "long": case "near": case "borne": case "tempo": return 1;
            case "even": case "rest": case "deep": case "note": return 2;
            default: return 3;
        }
    }

    /** The first place at which the pattern can't go on; NONE if all of the text is a book. */
    private static int breaks(String text) {
        Matcher matcher = BOOK.matcher(text);
        if (matcher.matches()) {
            return -1;
        }
        for (int end = 1; end <= text.length(); end++) {
            Matcher begun = BOOK.matcher(text.substring(0, end));
            if (!begun.matches() && !begun.hitEnd()) {
                return end - 1;
            }
        }
        return text.length();
    }

    private void compare(RoadThatSings x, String text) {
        Due.about("book '" + text + "'");
        int[] was = {stretches, cars, tunes, notes, shares};
        int broken = breaks(text);
        int senseless = senseless(text, broken == -1 ? text.length() : broken);
        int due = senseless != -1 ? senseless : broken;
        Due.due("book", Due.book(x, text), due == -1 ? items : -6);
        Due.due("fault", x.fault(), due);
        if (due != -1) {
            stretches = was[0];
            cars = was[1];
            tunes = was[2];
            notes = was[3];
            shares = was[4];
        }
        Due.due("STRETCHES", x.status(0), stretches);
        Due.due("CARS", x.status(1), cars);
        Due.due("TUNES", x.status(2), tunes);
        Due.due("SHARES", x.status(4), shares);
        Due.due("notes", x.noteOf(tunes - 1, -1, 0), tunes == 0 ? -5 : notes);
    }

    /** The first word or NUMBER ahead of an end that can't stand though the pattern goes on. */
    private int senseless(String text, int end) {
        items = 0;
        int at = 0;
        while (at < end) {
            Matcher word = WORD.matcher(text).region(at, end);
            if (!word.lookingAt()) {
                return -1;
            }
            if (!hasRoom(word.group())) {
                return at;
            }
            at = word.end();
            for (int n = 0; n < numbersOf(word.group()); n++) {
                Matcher number = DIGITS.matcher(text).region(Math.min(at + 1, end), end);
                if (!number.lookingAt()) {
                    return -1;
                }
                if (!mayBe(word.group(), n, Integer.parseInt(number.group()))) {
                    return at + 1;
                }
                at = number.end();
            }
            items++;
            count(word.group());
            at++;
        }
        return -1;
    }

    private boolean hasRoom(String word) {
        switch (word) {
            case "car": return cars < 6;
            case "tune": return tunes < 6;
            case "note": return tunes > 0 && notes < 12;
            case "long": case "near": case "borne": case "tempo": return true;
            default: return stretches < 16;
        }
    }

    private boolean mayBe(String word, int n, int v) {
        switch (word) {
            case "car":
                if (n == 2 && v + shares <= 100) {
                    shares += v;
                    return true;
                }
                return n == 0 ? v >= 1 && v <= 99 : n == 1 && v <= 999;
            case "note": return n == 0 || v >= 1 && v <= 16;
            case "long": return v >= 1;
            case "near": return v >= 2 && v <= 30;
            case "borne": return v <= 500;
            case "tempo": return v >= 50 && v <= 2000;
            default: return v <= 60 && (v >= 1 || n == 1 && numbersOf(word) == 3);
        }
    }

    private void count(String word) {
        switch (word) {
            case "car": cars++; break;
            case "tune": tunes++; notes = 0; break;
            case "note": notes++; break;
            case "long": case "near": case "borne": case "tempo": break;
            default: stretches++; break;
        }
    }
}
