import java.io.IOException;
import java.nio.file.Files;
import java.nio.file.Path;
import java.util.Set;
import java.util.TreeSet;
import java.util.regex.Matcher;
import java.util.regex.Pattern;
import java.util.stream.Collectors;
import java.util.stream.Stream;

/** README.md's examples answer what it tells, and its tables name what there is. */
public final class ReadmeTest {
    private static final Path TESTS = Path.of("src/test/java");

    private ReadmeTest() {
    }

    public static void main(String[] args) throws IOException {
        String readme = Files.readString(Path.of("README.md"));
        Due.about("README.md");
        laidRoad();
        toldRoad();
        examplesAreThese(readme);
        testsAreNamed(readme);
        classesAreNamed(readme);
        Due.end("ReadmeTest");
    }

    private static void laidRoad() {
        RoadThatSings road = new RoadThatSings();
        road.row(0, 2, 4);
        road.set(0, 0, 3520);
        road.set(0, 1, 1);
        road.set(0, 2, 0);
        road.set(0, 3, 1);
        int tune = road.tune(0, 2);
        int car = road.car(40, 120, 100);
        int length = road.lay(tune, 40);
        int heard = road.hears(car, tune, 2);
        Due.due("tune", tune, 0);
        Due.due("car", car, 0);
        Due.due("length", length, 1080);
        Due.due("heard", heard, 1);
    }

    private static void toldRoad() {
        RoadThatSings told = new RoadThatSings();
        String text = "even 8 20;rest 10 16;car 40 120 60;tune;note 3520 1;note 0 1;borne 50";
        told.row(1, 0, text.length());
        for (int i = 0; i < text.length(); i++) {
            told.set(1, i, text.charAt(i));
        }
        int items = told.book(1);
        int fault = told.fault();
        int off = told.note(0, 0, 0);
        Due.due("items", items, 7);
        Due.due("fault", fault, RoadThatSings.NONE);
        Due.due("off", off, 0);
    }

    /** Each line of the page's examples is a line of this test. */
    private static void examplesAreThese(String readme) throws IOException {
        Set<String> own = Files.readAllLines(TESTS.resolve("ReadmeTest.java")).stream()
            .map(String::trim).collect(Collectors.toSet());
        Matcher example = Pattern.compile("(?s)```java\n(.*?)```").matcher(readme);
        int lines = 0;
        while (example.find()) {
            for (String line : example.group(1).split("\n")) {
                String code = line.replaceAll("//.*", "").trim();
                Due.holds("'" + code + "' is a line of this test", own.contains(code));
                lines++;
            }
        }
        Due.holds("the page has examples", lines > 0);
    }

    private static void testsAreNamed(String readme) throws IOException {
        Set<String> there;
        try (Stream<Path> files = Files.list(TESTS)) {
            there = files.map(file -> file.getFileName().toString())
                .filter(name -> name.endsWith("Test.java"))
                .map(name -> name.replace(".java", ""))
                .collect(Collectors.toCollection(TreeSet::new));
        }
        Due.same("tests named", named(readme, "`(\\w+Test)`").toString(), there.toString());
    }

    private static void classesAreNamed(String readme) {
        Set<String> there = new TreeSet<>();
        for (Class<?> inside : RoadThatSings.class.getDeclaredClasses()) {
            there.add(inside.getSimpleName());
        }
        int from = readme.indexOf("## How it is built");
        int to = Math.max(from, readme.indexOf("## How to run its tests"));
        Set<String> told = named(from < 0 ? "" : readme.substring(from, to), "`([A-Z]\\w+)`");
        told.remove("RoadThatSings");
        Due.same("classes named", told.toString(), there.toString());
    }

    private static Set<String> named(String page, String pattern) {
        Set<String> names = new TreeSet<>();
        Matcher name = Pattern.compile(pattern).matcher(page);
        while (name.find()) {
            names.add(name.group(1));
        }
        return names;
    }
}
