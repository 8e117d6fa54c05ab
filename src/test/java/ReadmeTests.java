import java.io.ByteArrayOutputStream;
import java.io.IOException;
import java.io.PrintStream;
import java.lang.reflect.InvocationTargetException;
import java.lang.reflect.Method;
import java.lang.reflect.Modifier;
import java.net.URL;
import java.net.URLClassLoader;
import java.nio.charset.StandardCharsets;
import java.nio.file.Files;
import java.nio.file.Path;
import java.util.ArrayList;
import java.util.Arrays;
import java.util.Comparator;
import java.util.List;
import java.util.NoSuchElementException;
import java.util.regex.Matcher;
import java.util.regex.Pattern;
import java.util.stream.Stream;
import javax.tools.JavaCompiler;
import javax.tools.ToolProvider;

/** Whether README.md holds: its program, the calls that it tells, what it says of NONE and of what throws. */
public final class ReadmeTests extends Checks {
    private static final int[] ODD = {MIN, -2, -1, 0, 1, 2, 5, 6, 7, 8, 12, 143, 144, 255, MAX};
    private static final int CALLS = 512;

    public static void main(String[] args) throws Exception {
        promise = "README.md";
        String page = Files.readString(Path.of("README.md"));
        example(page);
        calls(page);
        throwing();
        nothingChanges();
        System.out.println(passed + " passed, " + failed + " failed");
        System.exit(failed == 0 ? 0 : 1);
    }

    // The program.

    private static void example(String page) throws Exception {
        String due = block(page, "text");
        is("the program's answers are told", due.isBlank(), false);
        Path room = Files.createTempDirectory("readme");
        try {
            Path source = room.resolve("Example.java");
            Files.writeString(source, block(page, "java"));
            JavaCompiler compiler = ToolProvider.getSystemJavaCompiler();
            int code = compiler.run(null, null, null, "-d", room.toString(), "-cp",
                    System.getProperty("java.class.path"), source.toString());
            is("the program compiles", code, 0);
            if (code == 0) {
                String got = answersOf(room);
                is("the program's answers are as told", got.equals(due), true);
                if (!got.equals(due)) {
                    System.out.println(got);
                }
            }
        } finally {
            clear(room);
        }
    }

    private static String block(String page, String sort) {
        Matcher found = Pattern.compile("```" + sort + "\n(.*?)```", Pattern.DOTALL).matcher(page);
        return found.find() ? found.group(1) : "";
    }

    private static String answersOf(Path room) throws Exception {
        PrintStream usual = System.out;
        ByteArrayOutputStream told = new ByteArrayOutputStream();
        try (URLClassLoader loader = new URLClassLoader(new URL[] {room.toUri().toURL()})) {
            System.setOut(new PrintStream(told, true, StandardCharsets.UTF_8));
            loader.loadClass("Example").getMethod("main", String[].class).invoke(null, (Object) new String[0]);
        } finally {
            System.setOut(usual);
        }
        return told.toString(StandardCharsets.UTF_8).replace(System.lineSeparator(), "\n");
    }

    private static void clear(Path room) throws IOException {
        try (Stream<Path> all = Files.walk(room)) {
            for (Path one : all.sorted(Comparator.reverseOrder()).toList()) {
                Files.delete(one);
            }
        }
    }

    // The calls.

    private static List<Method> face() {
        List<Method> face = new ArrayList<>();
        for (Method one : RugReader.class.getDeclaredMethods()) {
            if (Modifier.isPublic(one.getModifiers())) {
                face.add(one);
            }
        }
        face.sort(Comparator.comparing(Method::getName));
        return face;
    }

    private static void calls(String page) {
        String tables = Stream.of(page.split("\n")).filter(line -> line.startsWith("| `"))
                .map(line -> line.substring(0, line.indexOf('|', 1))).reduce("", (all, line) -> all + line);
        for (Method one : face()) {
            int many = one.getParameterCount();
            String args = many == 0 ? "" : "[^,()]+" + ", [^,()]+".repeat(many - 1);
            is("a table tells " + one.getName(),
                    Pattern.compile("`" + one.getName() + "\\(" + args + "\\)`").matcher(tables).find(), true);
        }
    }

    // What throws, and when.

    private static void throwing() {
        for (int state = 0; state < 4; state++) {
            for (Method one : face()) {
                throwing(state, one);
            }
        }
    }

    private static void throwing(int state, Method call) {
        int many = Math.min(call.getParameterCount(), 3);
        int left = 0;
        int wrong = 0;
        RugReader x = null;
        for (int draw = 0; draw < Math.pow(ODD.length, many); draw++) {
            if (left < 1) {
                x = at(state);
                left = CALLS - 60;
            }
            Object[] args = new Object[call.getParameterCount()];
            for (int i = 0, rest = draw; i < args.length; i++, rest /= ODD.length) {
                args[i] = ODD[rest % ODD.length];
            }
            wrong += throwsAsTold(x, call, args) ? 0 : 1;
            left--;
        }
        is(call.getName() + " throws as told, state " + state, wrong, 0);
    }

    private static boolean throwsAsTold(RugReader x, Method call, Object[] args) {
        Class<?> got = null;
        boolean due = false;
        if (call.getName().equals("person")) {
            int p = (Integer) args[0];
            int what = (Integer) args[1];
            due = p < 0 || p >= x.count(2) || what < 0 || what > 5;
        } else if (call.getName().equals("tuft")) {
            int at = (Integer) args[0];
            int what = (Integer) args[1];
            due = at < 0 || at % 12 >= x.count(0) || at / 12 >= x.count(1) || what < 0 || what > 7;
        }
        try {
            call.invoke(x, args);
        } catch (InvocationTargetException e) {
            got = e.getCause().getClass();
        } catch (IllegalAccessException e) {
            got = e.getClass();
        }
        boolean as = due ? got == NoSuchElementException.class : got == null;
        if (!as) {
            System.out.println(call.getName() + Arrays.toString(args) + " threw " + got);
        }
        return as;
    }

    /** 0 a new object, 1 an empty rug, 2 the HOUSE of the tests, 3 the same one in use; each with a text on the tape. */
    private static RugReader at(int state) {
        RugReader x = state == 0 ? new RugReader() : of(state == 1 ? "rug 12 12;" : HOUSE);
        if (state == 3) {
            inUse(x);
        }
        tell(x, "a 0 0;e 1 1;");
        return x;
    }

    private static void inUse(RugReader x) {
        tell(x, "trod p and weight < 5");
        x.sentence();
        tell(x, "a 0 0;e 1 1;w 1 1;");
        x.walk();
        tell(x, (byte) 0, (byte) 0, (byte) 12, (byte) 1);
        x.readings();
        x.seen(0, 1);
        x.goes(0, 0, 1);
        x.image(0);
        x.years(5, 3, 77);
        x.goes(1, 1, 0);
        x.beat(0, 1);
        x.days(1);
    }

    // A call that answers NONE (of that sense) or throws has changed nothing.

    private static void nothingChanges() {
        String due = stateOf(used());
        is("states differ at all", due.equals(stateOf(of(HOUSE))), false);
        for (Method one : face()) {
            for (int draw = 0; draw < 2 * ODD.length; draw++) {
                Object[] args = new Object[one.getParameterCount()];
                Arrays.fill(args, ODD[draw % ODD.length]);
                if (args.length > 1 && draw >= ODD.length) {
                    args[0] = 0;
                }
                RugReader x = used();
                if (isNone(x, one, args)) {
                    is(one.getName() + Arrays.toString(args) + " changed nothing", stateOf(x).equals(due), true);
                }
            }
        }
    }

    private static RugReader used() {
        RugReader x = of(HOUSE);
        inUse(x);
        return x;
    }

    private static boolean isNone(RugReader x, Method call, Object[] args) {
        try {
            Object answer = call.invoke(x, args);
            boolean taking = List.of("house", "walk", "sentence", "readings").contains(call.getName());
            return !taking && (answer.equals(RugReader.NONE) || answer.equals(-3) || answer.equals(false));
        } catch (InvocationTargetException e) {
            return true;
        } catch (IllegalAccessException e) {
            return false;
        }
    }

    /** What can be told of an object, by some 220 calls; the last of them change it. */
    private static String stateOf(RugReader x) {
        StringBuilder s = new StringBuilder();
        for (int what = 0; what < 9; what++) {
            s.append(x.count(what)).append(' ').append(x.walked(what)).append(' ').append(x.lay(what)).append(' ');
        }
        for (int at = 0; at < 29; at = at % 12 == 4 ? at + 8 : at + 1) {
            for (int what = 0; what < 8; what++) {
                s.append(x.tuft(at, what)).append(' ');
            }
            s.append(x.missing(at)).append(' ');
        }
        for (int p = 0; p < 2; p++) {
            for (int what = 0; what < 6; what++) {
                s.append(x.person(p, what)).append(' ');
            }
            s.append(x.read(p, 0)).append(' ').append(x.read(p, 1)).append(' ').append(x.said(p)).append(' ');
        }
        s.append(x.fewest()).append(' ').append(x.fault()).append(' ').append(x.said(RugReader.NONE)).append(' ');
        for (int i = 0; i < 7; i++) {
            s.append(x.undo()).append(' ').append(x.count(7)).append(' ').append(x.tuft(0, 0)).append(' ');
        }
        for (int k = 0; k < 2; k++) {
            s.append(x.restore(k)).append(' ').append(x.count(7)).append(' ').append(x.person(0, 3)).append(' ');
        }
        return s.toString();
    }
}
