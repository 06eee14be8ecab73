import java.io.IOException;
import java.lang.reflect.Method;
import java.lang.reflect.Modifier;
import java.nio.file.DirectoryStream;
import java.nio.file.Files;
import java.nio.file.Path;
import java.util.HashMap;
import java.util.Map;
import java.util.regex.Matcher;
import java.util.regex.Pattern;

/** README.md tells the class and its tests as they stand: its examples are run, and no call or test is left out. */
public final class ReadmeTest {
    private static final Pattern EXAMPLE = Pattern.compile("```java\n(.*?)```", Pattern.DOTALL);
    private static final Pattern MAKING = Pattern.compile("GossipWatch watch = new GossipWatch\\((-?\\d+)L\\);");
    private static final Pattern CALL =
        Pattern.compile("(?:int (\\w+) = )?watch\\.(\\w+)\\((.*?)\\); +// (-?\\d+|true|false)(?:: .*)?");

    private static int wrong = 0;
    private static int calls = 0;

    private static void due(String what, Object got, Object want) {
        if (!got.equals(want)) {
            wrong++;
            System.out.println(what + ": " + got + ", due is " + want);
        }
    }

    public static void main(String[] args) throws IOException, ReflectiveOperationException {
        String readme = Files.readString(Path.of("README.md"));
        Matcher examples = EXAMPLE.matcher(readme);
        while (examples.find()) run(examples.group(1).split("\n"));
        due("there are examples", calls > 0, true);
        for (Method m : GossipWatch.class.getDeclaredMethods()) {
            if (Modifier.isPublic(m.getModifiers())) named(readme, m.getName());
        }
        try (DirectoryStream<Path> files = Files.newDirectoryStream(Path.of("src/test/java"), "*.java")) {
            for (Path file : files) named(readme, file.getFileName().toString().replace(".java", ""));
        }
        System.out.println(calls + " calls of README.md, " + wrong + " things wrong");
        if (wrong != 0) System.exit(1);
    }

    private static void named(String readme, String name) {
        due(name + " is named", readme.contains("`" + name + "`"), true);
    }

    /** The first line makes the object; every other one is a call with its answer. */
    private static void run(String[] lines) throws ReflectiveOperationException {
        Matcher making = MAKING.matcher(lines[0]);
        due("makes an object: " + lines[0], making.matches(), true);
        if (!making.matches()) return;
        GossipWatch watch = new GossipWatch(Long.parseLong(making.group(1)));
        Map<String, Integer> letters = new HashMap<>();
        for (int i = 1; i < lines.length; i++) {
            Matcher call = CALL.matcher(lines[i]);
            due("can be read: " + lines[i], call.matches(), true);
            if (!call.matches()) continue;
            Object answer = answerOf(watch, call.group(2), call.group(3), letters);
            calls++;
            due(lines[i], String.valueOf(answer), call.group(4));
            if (call.group(1) != null) letters.put(call.group(1), (Integer) answer);
        }
    }

    private static Object answerOf(GossipWatch watch, String name, String told, Map<String, Integer> letters)
            throws ReflectiveOperationException {
        String[] words = told.isEmpty() ? new String[0] : told.split(", ");
        Class<?>[] types = new Class<?>[words.length];
        Object[] values = new Object[words.length];
        for (int i = 0; i < words.length; i++) {
            types[i] = int.class;
            values[i] = letters.containsKey(words[i]) ? letters.get(words[i]) : Integer.valueOf(words[i]);
        }
        return GossipWatch.class.getMethod(name, types).invoke(watch, values);
    }
}
