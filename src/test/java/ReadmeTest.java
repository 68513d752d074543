import java.io.IOException;
import java.lang.reflect.Method;
import java.lang.reflect.Modifier;
import java.nio.file.DirectoryStream;
import java.nio.file.Files;
import java.nio.file.Path;
import java.util.ArrayList;
import java.util.Collections;
import java.util.List;
import java.util.regex.Matcher;
import java.util.regex.Pattern;

/** README.md: its examples run and answer as they say, and it names every call and every test. */
public final class ReadmeTest {
    private static final Path TESTS = Path.of("src/test/java");

    private final Due due = new Due("ReadmeTest");
    private final String readme;

    private ReadmeTest(String readme) {
        this.readme = readme;
    }

    public static void main(String[] args) throws IOException {
        ReadmeTest test = new ReadmeTest(Files.readString(Path.of("README.md")));
        test.theExamplesStandInThisFile();
        test.guardExample();
        test.filterExample();
        test.everyCallIsNamed();
        test.everyTestIsNamed();
        test.due.finish();
    }

    private static List<String> trimmed(String lines) {
        List<String> kept = new ArrayList<>();
        for (String line : lines.split("\n")) {
            if (!line.isBlank()) {
                kept.add(line.trim());
            }
        }
        return kept;
    }

    private void theExamplesStandInThisFile() throws IOException {
        List<String> here = trimmed(Files.readString(TESTS.resolve("ReadmeTest.java")));
        Matcher blocks = Pattern.compile("(?s)```java\n(.*?)```").matcher(readme);
        int examples = 0;
        while (blocks.find()) {
            examples++;
            due.yes("example " + examples + " stands here line for line",
                    Collections.indexOfSubList(here, trimmed(blocks.group(1))) >= 0);
        }
        due.same("examples", examples, 2);
    }

    /** Compares with the number that the README says behind the line that makes the variable. */
    private void asSaid(String variable, long got) {
        Matcher line = Pattern.compile("(?m)^\\w+ " + variable + " = .*; *// (-?\\d+)(:|$)").matcher(readme);
        boolean found = line.find();
        due.yes("an answer is said for " + variable, found);
        if (found) {
            due.same(variable, got, Long.parseLong(line.group(1)));
        }
    }

    private void guardExample() {
        MethodWarden warden = new MethodWarden();
        for (char c : "role(3) & a < b".toCharArray()) {
            warden.type(c);
        }
        int fault = warden.define(0);        // -1: slot 0 has the expression now; else where the fault is
        warden.guard(0, 4, 0);               // method 0 opens when the expression of slot 0 is true
        warden.target(0, 1, 5, 0);           // method 0 gives back a + 5
        int early = warden.call(0, 1, 2L);   // 3: nobody is logged in
        warden.login(7, 1 << 3);             // user 7 with role 3
        int end = warden.call(0, 1, 2L);     // 0: the call gave something back
        int kind = warden.kind();            // 1: an INT
        int number = warden.number();        // 6
        int shut = warden.call(0, 2, 2L);    // 2: a < b is not true, the guard does not open
        asSaid("fault", fault);
        asSaid("early", early);
        asSaid("end", end);
        asSaid("kind", kind);
        asSaid("number", number);
        asSaid("shut", shut);
    }

    private void filterExample() {
        MethodWarden keeper = new MethodWarden();
        for (char c : "it > 0".toCharArray()) {
            keeper.type(c);
        }
        keeper.define(1);
        for (char c : "ret.size == list.size".toCharArray()) {
            keeper.type(c);
        }
        keeper.define(2);
        keeper.rules(4, 1, 2, -1);           // method 4: filter in of slot 1, check of slot 2, no filter out
        keeper.target(4, 2, 10, 0);          // method 4 gives back its list with 10 added to each item
        keeper.login(7, 0);
        keeper.add(3);
        keeper.add(-4);
        keeper.add(5);
        int sifted = keeper.call(4, 0, 0L);  // 0: the call gave something back
        int left = keeper.number();          // 2: two items came back
        int second = keeper.itemAt(1);       // 15
        int times = keeper.count(4, 0);      // 1: one call of method 4 gave something back
        for (char c : "list.$[it > 0] * 2L".toCharArray()) {
            keeper.type(c);
        }
        keeper.define(3);
        int sort = keeper.ask(3, 0, 0L);     // 3: a LONG
        long asked = keeper.asked();         // 10
        asSaid("sifted", sifted);
        asSaid("left", left);
        asSaid("second", second);
        asSaid("times", times);
        asSaid("sort", sort);
        asSaid("asked", asked);
    }

    private void everyCallIsNamed() {
        for (Method method : MethodWarden.class.getDeclaredMethods()) {
            if (Modifier.isPublic(method.getModifiers())) {
                due.yes(method.getName() + " is named", readme.contains("`" + method.getName() + "("));
            }
        }
    }

    private void everyTestIsNamed() throws IOException {
        try (DirectoryStream<Path> files = Files.newDirectoryStream(TESTS, "*Test.java")) {
            for (Path file : files) {
                String name = file.getFileName().toString().replace(".java", "");
                due.yes(name + " is named", readme.contains("`" + name + "`"));
            }
        }
    }
}
