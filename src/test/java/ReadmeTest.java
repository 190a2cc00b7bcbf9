import java.io.IOException;
import java.lang.reflect.Field;
import java.lang.reflect.Method;
import java.lang.reflect.Modifier;
import java.nio.file.Files;
import java.nio.file.Path;
import java.util.Set;
import java.util.TreeSet;
import java.util.regex.Matcher;
import java.util.regex.Pattern;

/** Runs the calls of the example in README.md: each answers what stands behind it, and none of the face is left out. */
public final class ReadmeTest {
    private static final Check CHECK = new Check();
    private static final Pattern CALL = Pattern.compile("x\\.(\\w+)\\((-?\\d*)\\);(?: *// ([\\w-]+)(?::.*)?)?");

    public static void main(String[] args) throws IOException, ReflectiveOperationException {
        CHECK.says("README.md");
        GrammarTables x = new GrammarTables();
        Set<String> called = new TreeSet<>();
        for (String line : example()) {
            Matcher call = CALL.matcher(line);
            if (call.matches()) {
                called.add(call.group(1));
                String got = answer(x, call.group(1), call.group(2));
                CHECK.due(line + " (it is " + got + "), that this is so", got.equals(due(call.group(3))), true);
            } else {
                boolean plain = line.isEmpty() || line.startsWith("//") || line.equals("GrammarTables x = new GrammarTables();");
                CHECK.due("'" + line + "', that this is a call", plain, true);
            }
        }
        for (Method m : GrammarTables.class.getDeclaredMethods()) {
            if (Modifier.isPublic(m.getModifiers())) {
                CHECK.due("that " + m.getName() + " is in the example", called.contains(m.getName()), true);
            }
        }
        CHECK.end();
    }

    private static String[] example() throws IOException {
        String readme = Files.readString(Path.of("README.md"));
        int begin = readme.indexOf("```java\n") + "```java\n".length();
        return readme.substring(begin, readme.indexOf("\n```\n", begin)).split("\n");
    }

    private static String answer(GrammarTables x, String name, String argument) throws ReflectiveOperationException {
        if (argument.isEmpty()) {
            return String.valueOf(GrammarTables.class.getMethod(name).invoke(x));
        }
        Method m = GrammarTables.class.getMethod(name, int.class);
        return String.valueOf(m.invoke(x, Integer.parseInt(argument)));
    }

    /** A call without an answer behind it has none; a constant is told by its name. */
    private static String due(String words) throws ReflectiveOperationException {
        if (words != null && words.matches("[A-Z_]+")) {
            Field constant = GrammarTables.class.getField(words);
            return String.valueOf(constant.getInt(null));
        }
        return String.valueOf(words);
    }
}
