import java.io.IOException;
import java.lang.reflect.Constructor;
import java.lang.reflect.Field;
import java.lang.reflect.Method;
import java.lang.reflect.Modifier;
import java.nio.file.Files;
import java.nio.file.Path;
import java.util.Arrays;
import java.util.Set;
import java.util.TreeSet;
import java.util.regex.Matcher;
import java.util.regex.Pattern;

/** What can be seen of ../shared/LANGUAGE.md: the face (rule 1), statics (5), words left out (2, 4, 6), room (12). */
public final class LanguageTest {
    private static final String[] FACE = {
        "append(int, int, int) int", "leaves(int, int) int", "head(int, int, int) int", "proof(int, int, int, int) int",
        "path(int, int, int, int) int", "alter(int, int, int) int", "cut(int, int) int", "sign(int) boolean",
        "clear() int", "letters() int", "letter(int, int) int", "take(int, int) int", "gossip(int, int) int",
        "holds(int, int) int", "held(int, int, int) int", "fact(int, int, int) int", "record(int, int, int) int",
        "lay(int, int) int", "desk(int) int", "patch(int, int) boolean", "trim(int) boolean", "audit() boolean",
        "hash(int) int"
    };
    private static final String LEFT_OUT = "\\b(import|package|throw|throws|try|catch|finally|synchronized|assert|"
        + "protected|instanceof|Object|Random|Thread|Runtime|hashCode|toString|equals|nanoTime|currentTimeMillis)\\b|->|::|@";

    private static int wrong = 0;

    private static void due(String what, Object got, Object want) {
        if (!got.equals(want)) {
            wrong++;
            System.out.println(what + ": " + got + ", due is " + want);
        }
    }

    public static void main(String[] args) throws IOException {
        face();
        statics(GossipWatch.class);
        for (Class<?> inside : GossipWatch.class.getDeclaredClasses()) {
            due(inside + " is static", Modifier.isStatic(inside.getModifiers()), true);
            due(inside + " is hidden", Modifier.isPublic(inside.getModifiers()) || Modifier.isProtected(inside.getModifiers()), false);
            statics(inside);
            names(inside);
        }
        words();
        room();
        System.out.println(wrong == 0 ? "the language is kept" : wrong + " things are not as due");
        if (wrong != 0) System.exit(1);
    }

    private static String signature(Method m) {
        StringBuilder out = new StringBuilder(m.getName()).append('(');
        for (Class<?> p : m.getParameterTypes()) {
            if (out.charAt(out.length() - 1) != '(') out.append(", ");
            out.append(p.getName());
        }
        return out.append(") ").append(m.getReturnType().getName()).toString();
    }

    private static void face() {
        Class<?> face = GossipWatch.class;
        due("public and final", face.getModifiers() & (Modifier.PUBLIC | Modifier.FINAL), Modifier.PUBLIC | Modifier.FINAL);
        Set<String> seen = new TreeSet<>();
        Set<String> names = new TreeSet<>();
        for (Method m : face.getDeclaredMethods()) {
            if (Modifier.isPrivate(m.getModifiers())) continue;
            due(m + " is public", Modifier.isPublic(m.getModifiers()) && !Modifier.isStatic(m.getModifiers()), true);
            seen.add(signature(m));
            names.add(m.getName());
        }
        due("methods", seen, new TreeSet<>(Arrays.asList(FACE)));
        for (Method m : face.getDeclaredMethods()) {
            if (Modifier.isPrivate(m.getModifiers())) due(m + " has a public one's name", names.contains(m.getName()), false);
        }
        Constructor<?>[] constructors = face.getDeclaredConstructors();
        due("constructors", constructors.length, 1);
        due("constructor", Arrays.toString(constructors[0].getParameterTypes()), "[long]");
        for (Field f : face.getDeclaredFields()) {
            due(f + " is private", Modifier.isPrivate(f.getModifiers()), !f.getName().equals("NONE"));
        }
    }

    private static void statics(Class<?> c) {
        for (Field f : c.getDeclaredFields()) {
            if (Modifier.isStatic(f.getModifiers())) due(f + " is final", Modifier.isFinal(f.getModifiers()), true);
        }
    }

    private static void names(Class<?> inside) {
        for (Method m : inside.getDeclaredMethods()) {
            for (String one : FACE) due(m + " has a public one's name", one.startsWith(m.getName() + "("), false);
            due(m + " takes at most seven", m.getParameterCount() <= 7, true);
        }
    }

    private static void words() throws IOException {
        String source = Files.readString(Path.of("src/main/java/GossipWatch.java"));
        String code = source.replaceAll("(?s)/\\*.*?\\*/", "").replaceAll("//[^\n]*", "");
        Matcher m = Pattern.compile(LEFT_OUT).matcher(code);
        while (m.find()) due("a word of the source", m.group(), "none such");
    }

    /** After the constructor nothing is made: the room of a run is that of one object. */
    private static void room() {
        com.sun.management.ThreadMXBean threads =
            (com.sun.management.ThreadMXBean) java.lang.management.ManagementFactory.getThreadMXBean();
        long thread = Thread.currentThread().getId();
        dearRun(new GossipWatch(1L));
        long start = threads.getThreadAllocatedBytes(thread);
        GossipWatch x = new GossipWatch(1L);
        long made = threads.getThreadAllocatedBytes(thread);
        dearRun(x);
        long used = threads.getThreadAllocatedBytes(thread);
        due("an object is small", made - start < 400_000, true);
        due("calls make nothing", used - made < 4_000, true);
    }

    private static void dearRun(GossipWatch x) {
        for (int i = 0; i < 80; i++) x.append(0, 0, i);
        for (int i = 0; i < 20; i++) x.take(0, x.head(0, 0, 80 - i));
        for (int i = 0; i < 20; i++) x.take(0, x.proof(0, 0, 77 - i, 80));
        for (int i = 0; i < 20; i++) x.take(0, x.path(0, 0, 80, i));
        x.gossip(0, 1);
        x.lay(0, 0);
        x.trim(634);
        x.audit();
        x.hash(0);
    }
}
