import java.lang.reflect.InvocationTargetException;
import java.lang.reflect.Method;
import java.lang.reflect.Modifier;
import java.util.ArrayList;
import java.util.HashMap;
import java.util.List;
import java.util.Map;
import java.util.regex.Matcher;
import java.util.regex.Pattern;

/**
 * A new object and the calls made on it, told as a text: "row(0, 2, 4) = 1 set(0, 3, 7)"; where an
 * answer is told, it is due. No object is used for more calls than the document allows.
 */
final class Calls {
    private static final int MOST_CALLS = 512;
    private static final Pattern CALL =
        Pattern.compile("(\\w+)\\(([^()]*)\\)(?:\\s*=\\s*(-?\\d+))?\\s*");
    private static final Map<String, Method> FACE = face();
    private static final int[] MAY_BE_ASKED = {1, 2, 0, 50};

    private final RoadThatSings object = new RoadThatSings();
    private final List<String> made = new ArrayList<>();
    private int count = 0;

    /** No STRETCHES, CARS, TUNES. */
    static Calls fresh() {
        return new Calls();
    }

    /**
     * Four STRETCHES, three CARS, three TUNES of 3, 1 and 2 notes; SHELVES: 0 six ints, 1 three
     * bytes, 2 two shorts, 3 160 longs, 4 STRETCH 1 (a PAIR), 5 STRETCH 3 (a REST), 6 a BOOK with a
     * FAULT, 7 NOTHING; an IMAGE unlike all that, and a TRACE.
     */
    static Calls filled() {
        Calls x = new Calls();
        x.calls("stretch(1, 8, 0, 20) stretch(2, 9, 4, 3) stretch(6, 7, 9, 11) car(40, 120, 60)"
            + " car(20, 90, 30)");
        x.row(0, 2, 3520, 2, 0, 1, 1760, 4);
        x.calls("tune(0, 3) tune(0, 1) ask(0, 500) seed(77) image() stretch(3, 10, 0, 7)"
            + " car(55, 0, 5) tune(0, 2) ask(1, 5) ask(2, 100) ask(3, 300) seed(-9)"
            + " row(1, 0, 3) set(1, 1, -7) row(2, 1, 2) set(2, 0, 9) row(3, 3, 160)"
            + " set(3, 159, 1099511627776) show(4, 1) show(5, 3)");
        x.letters(6, "tunx");
        return x.calls("book(6) = -6 act(2, 2, 5)");
    }

    /** 16 STRETCHES, 6 CARS whose SHARES are 100, 6 TUNES, the last of 12 notes; ints in SHELF 0. */
    static Calls full() {
        Calls x = new Calls();
        for (int i = 0; i < 16; i++) {
            x.calls("stretch(" + i % 7 + ", " + (i + 1) + ", 3, 2) = " + i);
        }
        for (int i = 0; i < 6; i++) {
            x.calls("car(" + (i + 1) + ", 0, " + (i < 4 ? 20 : 10) + ") = " + i);
        }
        x.calls("row(0, 2, 24)");
        for (int i = 0; i < 24; i++) {
            x.calls("set(0, " + i + ", 1)");
        }
        return x.calls("tune(0, 1) tune(0, 1) tune(0, 1) tune(0, 1) tune(0, 1) tune(0, 12) = 5");
    }

    Calls calls(String text) {
        for (String[] call : parts(text)) {
            long answer = answer(call[0], call[1]);
            if (call[2] != null) {
                Due.due(call[0] + "(" + call[1] + ")", answer, Long.parseLong(call[2]));
            }
        }
        return this;
    }

    /** Of each call of a text its name, arguments, and the answer that is due, or null. */
    private static List<String[]> parts(String text) {
        List<String[]> parts = new ArrayList<>();
        String told = text.trim();
        Matcher call = CALL.matcher(told);
        int end = 0;
        while (call.find() && call.start() == end) {
            end = call.end();
            parts.add(new String[] {call.group(1), call.group(2), call.group(3)});
        }
        Due.holds("all of '" + told + "' is calls", end == told.length());
        return parts;
    }

    long answer(String name, String with) {
        Method method = FACE.get(name);
        Due.holds(name + " is of the face", method != null);
        count++;
        Due.holds("an object is used for 512 calls at most", count <= MOST_CALLS);
        made.add(name + "(" + with + ")");
        try {
            return ((Number) method.invoke(object, arguments(method, with))).longValue();
        } catch (InvocationTargetException | IllegalAccessException e) {
            Due.holds(name + "(" + with + ") threw " + e.getCause(), false);
            return 0;
        }
    }

    int ask(String name, int... with) {
        StringBuilder all = new StringBuilder();
        for (int v : with) {
            all.append(all.length() == 0 ? "" : ", ").append(v);
        }
        return (int) answer(name, all.toString());
    }

    private static Object[] arguments(Method method, String with) {
        Class<?>[] types = method.getParameterTypes();
        String[] told = with.isEmpty() ? new String[0] : with.split(",");
        Due.due("arguments of " + method.getName() + "(" + with + ")", told.length, types.length);
        Object[] all = new Object[types.length];
        for (int i = 0; i < types.length; i++) {
            String v = told[i].trim();
            if (types[i] == long.class) {
                all[i] = Long.parseLong(v);
            } else {
                all[i] = v.equals("MAX") ? Integer.MAX_VALUE
                    : v.equals("MIN") ? Integer.MIN_VALUE : Integer.parseInt(v);
            }
        }
        return all;
    }

    /** SHELF s holds a ROW with these elements. */
    Calls row(int s, int sort, long... elements) {
        calls("row(" + s + ", " + sort + ", " + elements.length + ")");
        for (int i = 0; i < elements.length; i++) {
            calls("set(" + s + ", " + i + ", " + elements[i] + ")");
        }
        return this;
    }

    Calls letters(int s, String text) {
        long[] signs = new long[text.length()];
        for (int i = 0; i < signs.length; i++) {
            signs[i] = text.charAt(i);
        }
        return row(s, 0, signs);
    }

    /** A TUNE of notes, each PITCH and BEATS, by SHELF 7. */
    Calls tune(long... notes) {
        return row(7, 2, notes).calls("tune(7, " + notes.length / 2 + ")");
    }

    /** A BOOK by SHELF 7 that comes with all its ITEMS. */
    Calls book(String text, int items) {
        return letters(7, text).calls("book(7) = " + items + " fault() = -1");
    }

    /** A BOOK by SHELF 7 with a FAULT: refused, and nothing told but that. */
    Calls faulty(String text, int fault) {
        letters(7, text);
        Calls with = again();
        Calls without = again();
        with.calls("book(7) = -6 fault() = " + fault);
        Due.about("'" + text + "'", () -> {
            compareRefusals(with, without, -6);
            compareAll(with, without, false);
        });
        return this;
    }

    /**
     * Each call of a text answers a refusal, that is counted as such, and all else (THE IMAGE, too)
     * is as it would be without the call.
     */
    Calls refused(int answer, String text) {
        for (String[] call : parts(text)) {
            String told = call[0] + "(" + call[1] + ")";
            Calls with = again();
            Calls without = again();
            with.calls(told + " = " + answer);
            Due.about(told, () -> {
                compareRefusals(with, without, answer < -10 ? answer + 10 : answer);
                compareAll(with, without, true);
            });
        }
        return this;
    }

    private Calls again() {
        Calls other = new Calls();
        for (String call : made) {
            other.calls(call);
        }
        return other;
    }

    private static void compareRefusals(Calls with, Calls without, int refusal) {
        for (int r = -1; r >= -7; r--) {
            int more = r == refusal ? 1 : 0;
            Due.due("REFUSALS " + r, with.ask("status", 10 - r),
                without.ask("status", 10 - r) + more);
        }
    }

    private static void compareAll(Calls with, Calls without, boolean andFault) {
        Due.same("what is there", with.all(andFault), without.all(andFault));
        Due.same("restore()", "" + with.ask("restore"), "" + without.ask("restore"));
        Due.same("what THE IMAGE has", with.all(andFault), without.all(andFault));
    }

    /** All that can be asked for, but for REFUSALS. */
    private String all(boolean andFault) {
        StringBuilder all = new StringBuilder();
        for (int what = 0; what <= 6; what++) {
            all.append(" status").append(what).append(':').append(ask("status", what));
        }
        for (int s = 0; s < 8; s++) {
            int held = ask("holds", s);
            all.append(" shelf").append(s).append(':').append(held);
            for (int i = 0; held >= 100 && i < 7; i++) {
                all.append(',').append(answer("element", s + ", " + (i < 6 ? i : 159)));
            }
        }
        appendAll(all, "stretchOf", ask("status", 0), 4);
        appendAll(all, "carOf", ask("status", 1), 3);
        for (int t = ask("status", 2) - 1; t >= 0; t--) {
            appendNotes(all, t);
        }
        for (int what = 0; what < 4; what++) {
            int was = ask("ask", what, MAY_BE_ASKED[what]);
            all.append(" asked").append(what).append(':').append(was);
            ask("ask", what, was);
        }
        for (int i = ask("status", 6); i >= 0; i--) {
            all.append(" trace:").append(ask("trace", i));
        }
        return all.append(andFault ? " fault:" + ask("fault") : "").toString();
    }

    private void appendAll(StringBuilder all, String name, int count, int whats) {
        for (int i = 0; i < count; i++) {
            all.append(' ').append(name).append(i).append(':');
            for (int what = 0; what < whats; what++) {
                all.append(ask(name, i, what)).append(',');
            }
        }
    }

    private void appendNotes(StringBuilder all, int tune) {
        int notes = ask("noteOf", tune, -1, 0);
        all.append(" tune").append(tune).append(':').append(notes);
        for (int i = 0; i < notes; i++) {
            all.append(',').append(ask("noteOf", tune, i, 0)).append('x')
                .append(ask("noteOf", tune, i, 1));
        }
    }

    private static Map<String, Method> face() {
        Map<String, Method> face = new HashMap<>();
        for (Method method : RoadThatSings.class.getDeclaredMethods()) {
            if (Modifier.isPublic(method.getModifiers())) {
                face.put(method.getName(), method);
            }
        }
        return face;
    }
}
