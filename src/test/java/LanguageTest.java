import com.sun.management.ThreadMXBean;
import java.io.IOException;
import java.lang.management.ManagementFactory;
import java.lang.reflect.Constructor;
import java.lang.reflect.Field;
import java.lang.reflect.Method;
import java.lang.reflect.Modifier;
import java.nio.file.Files;
import java.nio.file.Path;
import java.util.ArrayList;
import java.util.List;
import java.util.Set;
import java.util.TreeSet;
import java.util.regex.Matcher;
import java.util.regex.Pattern;

/** Rules of LANGUAGE.md that a program can look at: the face, forbidden words, the room. */
public final class LanguageTest {
    private static final Path SOURCE = Path.of("src/main/java/MethodWarden.java");
    private static final Set<String> FACE = Set.of(
            "boolean type(char)", "int define(int)", "boolean senior(int, int)", "boolean login(int, int)",
            "int context()", "boolean add(int)", "void empty()", "boolean guard(int, int, int)",
            "boolean rules(int, int, int, int)", "boolean target(int, int, int, int)", "int call(int, int, long)",
            "int kind()", "int number()", "int itemAt(int)", "int count(int, int)", "int ask(int, int, long)",
            "long asked()");
    private static final Pattern FORBIDDEN = Pattern.compile(
            "\\b(import|package|throw|throws|try|catch|finally|synchronized|assert|native|volatile|transient"
            + "|Object|Thread|System|Exact|hashCode|toString|random|HashMap|double|float)\\b|->|::");
    private static final int MOST_LINES_OF_A_METHOD = 60;
    private static final int MOST_PARAMETERS = 7;
    private static final int MOST_CLASSES = 12;
    private static final int MOST_FIELDS = 20;

    public static void main(String[] args) throws IOException {
        Due due = new Due("LanguageTest");
        theFaceIsTheDocuments(due);
        classesInsideKeepToTheRules(due);
        theSourceHasNoForbiddenWord(due);
        methodsAreShort(due);
        noCallMakesAnObject(due);
        anObjectIsSmall(due);
        due.finish();
    }

    private static String signature(Method method) {
        List<String> types = new ArrayList<>();
        for (Class<?> type : method.getParameterTypes()) {
            types.add(type.getName());
        }
        return method.getReturnType().getName() + " " + method.getName() + "(" + String.join(", ", types) + ")";
    }

    private static void theFaceIsTheDocuments(Due due) {
        Class<?> face = MethodWarden.class;
        due.yes("the class is public and final",
                Modifier.isPublic(face.getModifiers()) && Modifier.isFinal(face.getModifiers()));
        Set<String> found = new TreeSet<>();
        for (Method method : face.getDeclaredMethods()) {
            boolean isPublic = Modifier.isPublic(method.getModifiers());
            if (isPublic) {
                found.add(signature(method));
            }
            due.yes(method + " is public or private", isPublic || Modifier.isPrivate(method.getModifiers()));
        }
        due.yes("the public methods are " + found, found.equals(FACE));
        Constructor<?>[] constructors = face.getDeclaredConstructors();
        due.same("constructors", constructors.length, 1);
        due.same("its parameters", constructors[0].getParameterCount(), 0);
        for (Field field : face.getDeclaredFields()) {
            due.yes(field + " is private", Modifier.isPrivate(field.getModifiers()));
        }
    }

    private static Set<String> faceNames() {
        Set<String> names = new TreeSet<>();
        for (String line : FACE) {
            names.add(line.substring(line.indexOf(' ') + 1, line.indexOf('(')));
        }
        return names;
    }

    private static void classesInsideKeepToTheRules(Due due) {
        List<Class<?>> all = new ArrayList<>(List.of(MethodWarden.class.getDeclaredClasses()));
        all.add(MethodWarden.class);
        due.yes("the number of classes", all.size() <= MOST_CLASSES);
        Set<String> names = faceNames();
        for (Class<?> one : all) {
            due.yes(one + " is static", one == MethodWarden.class || Modifier.isStatic(one.getModifiers()));
            int fields = 0;
            for (Field field : one.getDeclaredFields()) {
                int modifiers = field.getModifiers();
                fields += Modifier.isStatic(modifiers) ? 0 : 1;
                due.yes(field + " is final if static", !Modifier.isStatic(modifiers) || Modifier.isFinal(modifiers));
            }
            due.yes("fields of " + one, fields <= MOST_FIELDS);
            for (Method method : one.getDeclaredMethods()) {
                due.yes("parameters of " + method, method.getParameterCount() <= MOST_PARAMETERS);
                due.yes(method + " bears a name of the face", one == MethodWarden.class
                        ? Modifier.isPublic(method.getModifiers()) == names.contains(method.getName())
                        : !names.contains(method.getName()));
            }
        }
    }

    /** The source without comments, texts and characters. */
    private static String bareSource() throws IOException {
        String source = Files.readString(SOURCE);
        return source.replaceAll("(?s)/\\*.*?\\*/", "").replaceAll("//.*", "")
                .replaceAll("\"[^\"\n]*\"", "TEXT").replaceAll("'\\\\?.'", "CHARACTER");
    }

    private static void theSourceHasNoForbiddenWord(Due due) throws IOException {
        Matcher matcher = FORBIDDEN.matcher(bareSource());
        due.no("a forbidden word stands in the source", matcher.find());
        if (due.isSpoilt()) {
            System.out.println("it is: " + matcher.group());
        }
    }

    private static void methodsAreShort(Due due) throws IOException {
        String[] lines = bareSource().split("\n");
        Pattern head = Pattern.compile("^( {4}| {8})(?! )[^=;]*\\) \\{$");
        for (int k = 0; k < lines.length; k++) {
            Matcher matcher = head.matcher(lines[k]);
            if (matcher.find()) {
                int end = k;
                while (!lines[end].equals(matcher.group(1) + "}")) {
                    end++;
                }
                due.yes("is short: " + lines[k].trim(), end - k <= MOST_LINES_OF_A_METHOD);
            }
        }
    }

    /** A run of ordinary calls that goes through all methods. */
    private static void use(MethodWarden warden) {
        type(warden, SELECTING);
        warden.define(0);
        type(warden, CHECKING);
        warden.define(1);
        type(warden, FAULTY);
        warden.define(2);
        warden.senior(1, 2);
        warden.login(3, 2);
        warden.empty();
        for (int k = 0; k < 6; k++) {
            warden.add(k);
        }
        for (int m = 0; m < 8; m++) {
            warden.target(m, m == 7 ? 2 : 5, m == 7 ? 1 : m + 1, 4);
            warden.rules(m, 0, 1, 0);
        }
        warden.guard(8, 4, 1);
        warden.call(0, 1, 2);
        warden.ask(0, 1, 2);
        warden.ask(1, 1, 2);
        int sum = warden.kind() + warden.number() + warden.itemAt(0) + warden.count(0, 0) + warden.context();
        warden.add(sum + (int) warden.asked());
    }

    private static final char[] SELECTING = "list.?[list.^[it>1]!=list.$[it>2]].size>it-9".toCharArray();
    private static final char[] CHECKING = "role(2)&me+1L*2>0?true:null?:false".toCharArray();
    private static final char[] FAULTY = "((((((a+b*2147483648".toCharArray();

    private static void type(MethodWarden warden, char[] text) {
        for (int k = 0; k < text.length; k++) {
            warden.type(text[k]);
        }
    }

    private static long allocated() {
        ThreadMXBean bean = (ThreadMXBean) ManagementFactory.getThreadMXBean();
        return bean.getThreadAllocatedBytes(Thread.currentThread().getId());
    }

    private static void noCallMakesAnObject(Due due) {
        MethodWarden warden = new MethodWarden();
        use(warden);
        allocated();
        int runs = 1000;
        long before = allocated();
        for (int k = 0; k < runs; k++) {
            use(warden);
        }
        // The machine's own doings around the measuring are some bytes; an object a run is far more.
        long made = allocated() - before;
        due.same("whole objects that a run of calls makes, of " + made + " bytes", made / runs / 8, 0);
    }

    private static void anObjectIsSmall(Due due) {
        new MethodWarden();
        long before = allocated();
        new MethodWarden();
        due.yes("an object takes at most 16,000 bytes", allocated() - before <= 16000);
    }
}
