import java.io.IOException;
import java.lang.reflect.Constructor;
import java.lang.reflect.Field;
import java.lang.reflect.Method;
import java.lang.reflect.Modifier;
import java.nio.file.Files;
import java.nio.file.Path;
import java.util.Arrays;
import java.util.List;
import java.util.Set;
import java.util.TreeSet;
import java.util.regex.Pattern;

/** The face is the document's, and the source keeps to what of LANGUAGE.md is plain to see. */
public final class LanguageTest {
    private static final Path SOURCE = Path.of("src/main/java/RoadThatSings.java");
    private static final Path DOC = Path.of("../shared/DOC.md");

    private LanguageTest() {
    }

    public static void main(String[] args) throws IOException {
        face();
        names();
        members();
        text();
        methods();
        Due.end("LanguageTest");
    }

    private static void face() throws IOException {
        Due.about("rule 1: the face");
        Set<String> told = new TreeSet<>();
        for (String line : Files.readAllLines(DOC)) {
            String face = line.trim();
            if (face.startsWith("public int ") || face.startsWith("public long ")) {
                told.add(face.replace("public ", "").replaceAll("(int|long) \\w+([,)])", "$1$2")
                    .replace(";", ""));
            }
        }
        Set<String> built = new TreeSet<>();
        for (Method m : RoadThatSings.class.getDeclaredMethods()) {
            if (Modifier.isPublic(m.getModifiers())) {
                StringBuilder face = new StringBuilder(m.getReturnType() + " " + m.getName() + "(");
                for (Class<?> type : m.getParameterTypes()) {
                    face.append(face.charAt(face.length() - 1) == '(' ? "" : ", ").append(type);
                }
                built.add(face.append(")").toString());
            }
        }
        Due.due("methods told", told.size(), 47);
        Due.holds("told " + told + ", built " + built, told.equals(built));
        Due.due("class", RoadThatSings.class.getModifiers(), Modifier.PUBLIC | Modifier.FINAL);
        Constructor<?>[] constructors = RoadThatSings.class.getDeclaredConstructors();
        Due.due("constructors", constructors.length, 1);
        Due.holds("a public one", Modifier.isPublic(constructors[0].getModifiers()));
    }

    private static void names() {
        Due.about("rule 1: private names");
        Set<String> face = new TreeSet<>();
        for (Method m : RoadThatSings.class.getDeclaredMethods()) {
            if (Modifier.isPublic(m.getModifiers())) {
                face.add(m.getName());
            }
        }
        for (Method m : RoadThatSings.class.getDeclaredMethods()) {
            if (!Modifier.isPublic(m.getModifiers())) {
                Due.holds(m.getName() + " is private", Modifier.isPrivate(m.getModifiers()));
                Due.holds(m.getName() + " is a name of its own", !face.contains(m.getName()));
            }
        }
        for (Class<?> inside : RoadThatSings.class.getDeclaredClasses()) {
            Due.holds(inside + " is static", Modifier.isStatic(inside.getModifiers()));
            Due.holds(inside + " is inside", !Modifier.isPublic(inside.getModifiers()));
            for (Method m : inside.getDeclaredMethods()) {
                Due.holds(m.getName() + " is a name of its own", !face.contains(m.getName()));
            }
        }
    }

    private static void members() {
        Due.about("rules 1, 5, 11: fields");
        Due.holds("twelve classes", RoadThatSings.class.getDeclaredClasses().length < 12);
        for (Field f : RoadThatSings.class.getDeclaredFields()) {
            boolean open = !Modifier.isPrivate(f.getModifiers());
            Due.holds(f.getName() + " is private but for NONE", open == f.getName().equals("NONE"));
        }
        for (Class<?> c : allClasses()) {
            int own = 0;
            for (Field f : c.getDeclaredFields()) {
                boolean fixed = Modifier.isStatic(f.getModifiers());
                Due.holds(f + " is final", !fixed || Modifier.isFinal(f.getModifiers()));
                own += fixed ? 0 : 1;
                Due.holds(f + " is no double", !f.getType().equals(double.class));
            }
            Due.holds(c + " has twenty fields at most", own <= 20);
        }
    }

    private static Class<?>[] allClasses() {
        Class<?>[] inside = RoadThatSings.class.getDeclaredClasses();
        Class<?>[] all = Arrays.copyOf(inside, inside.length + 1);
        all[inside.length] = RoadThatSings.class;
        return all;
    }

    private static void text() throws IOException {
        Due.about("LANGUAGE.md");
        String source = Files.readString(SOURCE);
        for (int i = 0; i < source.length(); i++) {
            if (source.charAt(i) > 126) {
                Due.holds("sign " + i + " is plain", false);
            }
        }
        String code = source.replaceAll("(?s)/\\*.*?\\*/", "").replaceAll("//[^\n]*", "");
        String[] never = {"->", "::", "\\bcatch\\b", "\\bthrow\\b", "\\bfinally\\b", "\\btry\\b",
            "\\bassert\\b", "\\bsynchronized\\b", "\\bdouble\\b", "\\bfloat\\b", "\\binstanceof\\b",
            "static \\{", "\\bSystem\\.(?!arraycopy\\b)", "Exact\\(", "\\bequals\\b",
            "\\bhashCode\\b", "\\btoString\\b", "\\bObject\\b", "\\bprotected\\b", "\" \\+",
            "\\+ \"", "\\bpackage\\b", "\\bjava\\.(?!util\\.Arrays;)"};
        for (String pattern : never) {
            Due.holds("no " + pattern, !Pattern.compile(pattern).matcher(code).find());
        }
    }

    /** Methods end with a brace as far in as they begin. */
    private static void methods() throws IOException {
        Due.about("rule 11: methods");
        List<String> lines = Files.readAllLines(SOURCE);
        for (int i = 0; i < lines.size(); i++) {
            String line = lines.get(i);
            boolean begins = line.matches(" {4}( {4})?\\w.*\\(.*") && !line.contains(";")
                && !line.contains("= ") && !line.matches(" *(if|for|while|switch|return|case).*");
            if (!begins) {
                continue;
            }
            String end = line.replaceAll("\\S.*", "") + "}";
            int last = i;
            while (last < lines.size() && !lines.get(last).equals(end)) {
                last++;
            }
            Due.holds("'" + line.trim() + "' is short", last - i <= 60);
            Due.holds("'" + line.trim() + "' takes seven", line.split(",").length <= 7);
        }
    }
}
