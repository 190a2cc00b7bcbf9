import java.io.IOException;
import java.lang.reflect.Constructor;
import java.lang.reflect.Field;
import java.lang.reflect.Method;
import java.lang.reflect.Modifier;
import java.nio.file.Files;
import java.nio.file.Path;
import java.util.ArrayList;
import java.util.HashSet;
import java.util.List;
import java.util.Map;
import java.util.Set;
import java.util.TreeMap;
import java.util.TreeSet;
import java.util.regex.Matcher;
import java.util.regex.Pattern;

/** The public face, and the rules of LANGUAGE.md that can be read off the class and its source. */
public final class LanguageTest {
    private static final Check CHECK = new Check();
    private static final String FACE = "automaton(int):int begins(int):int follows(int):int grade():int join(int):int "
        + "kind(int):int kindOf(int):int leaf(int):int lengthOf(int):int letter(int):int patternless():void "
        + "reads():boolean repeat(int):int rule(int):int states():int stopsAt():int symbol(int):int textless():void "
        + "tokens():int unrule():int used(int):int useful(int):boolean uses():int value():int wideStates():int "
        + "wrongAt():int";

    public static void main(String[] args) throws IOException {
        face();
        fields();
        String source = Files.readString(Path.of("src/main/java/GrammarTables.java"));
        String code = source.replaceAll("//[^\n]*", "");
        words(code);
        arrays(code);
        methods(code);
        CHECK.end();
    }

    private static void holds(String rule, boolean holds) {
        CHECK.due(rule, holds, true);
    }

    private static void face() {
        Set<String> shown = new TreeSet<>();
        Set<String> publicNames = new HashSet<>();
        Set<String> privateNames = new HashSet<>();
        for (Method m : GrammarTables.class.getDeclaredMethods()) {
            if (Modifier.isPrivate(m.getModifiers())) {
                privateNames.add(m.getName());
            } else {
                publicNames.add(m.getName());
                String parameters = m.getParameterCount() == 0 ? "" : m.getParameterTypes()[0].getName();
                shown.add(m.getName() + "(" + parameters + "):" + m.getReturnType().getName());
            }
            holds("7 parameters at most: " + m.getName(), m.getParameterCount() <= 7);
        }
        holds("the public methods are " + shown, String.join(" ", shown).equals(FACE));
        privateNames.retainAll(publicNames);
        holds("private methods with public names " + privateNames, privateNames.isEmpty());
        Constructor<?>[] made = GrammarTables.class.getDeclaredConstructors();
        holds("one constructor", made.length == 1 && Modifier.isPublic(made[0].getModifiers()));
        holds("public and final", GrammarTables.class.getModifiers() == (Modifier.PUBLIC | Modifier.FINAL));
        holds("no nested class", GrammarTables.class.getDeclaredClasses().length == 0);
        CHECK.due("BAD_ARG", GrammarTables.BAD_ARG, -1);
        CHECK.due("FULL", GrammarTables.FULL, -2);
        CHECK.due("TOO_FEW", GrammarTables.TOO_FEW, -3);
        CHECK.due("NONE", GrammarTables.NONE, -4);
        CHECK.due("LARGE", GrammarTables.LARGE, -5);
    }

    private static void fields() {
        int count = 0;
        int shown = 0;
        for (Field f : GrammarTables.class.getDeclaredFields()) {
            int modifiers = f.getModifiers();
            Class<?> type = f.getType();
            if (Modifier.isStatic(modifiers)) {
                holds("a constant of int or long: " + f.getName(),
                    Modifier.isFinal(modifiers) && (type == int.class || type == long.class));
            } else {
                count++;
                holds("a type of the language: " + f.getName(),
                    type.isPrimitive() || type.isArray() && type.getComponentType().isPrimitive());
                holds("an array stays: " + f.getName(), !type.isArray() || Modifier.isFinal(modifiers));
            }
            shown += Modifier.isPrivate(modifiers) ? 0 : 1;
        }
        holds(count + " fields", count <= 42);
        CHECK.due("fields that are not private", shown, 5);
    }

    private static void words(String code) {
        String[] banned = {"import", "package", "throw", "throws", "try", "catch", "synchronized", "assert",
            "instanceof", "null", "float", "double", "String", "Math", "Integer", "System", "Arrays", "Object",
            "static\\s*\\{", "->", "::", "var", "this"};
        for (String word : banned) {
            String bounded = word.matches("\\w+") ? "\\b" + word + "\\b" : word;
            holds("no " + word, !Pattern.compile(bounded).matcher(code).find());
        }
    }

    private static void arrays(String code) {
        Matcher made = Pattern.compile("new (\\w+)\\[(\\w+)]").matcher(code);
        int count = 0;
        while (made.find()) {
            count++;
        }
        int all = code.split("\\bnew\\b", -1).length - 1;
        CHECK.due("all that is made is an array with a constant length", all, count);
        int fieldsMade = code.split("private final \\w+\\[] \\w+ = new ", -1).length - 1;
        CHECK.due("all arrays are made in initialisers of fields", fieldsMade, count);
        holds("no two-dimensional array", !code.contains("[][]"));
    }

    /** The bodies of the methods, found by the four spaces that close them. */
    private static void methods(String code) {
        Map<String, String> bodies = new TreeMap<>();
        Matcher head = Pattern.compile("(?m)^    (?:public|private) [\\w\\[\\] ]*?(\\w+)\\([^)]*\\) \\{\n").matcher(code);
        while (head.find()) {
            String body = code.substring(head.end(), code.indexOf("\n    }\n", head.end()) + 1);
            bodies.put(head.group(1), body);
            holds("sixty lines at most: " + head.group(1), body.split("\n").length <= 60);
        }
        CHECK.due("methods found", bodies.size(), GrammarTables.class.getDeclaredMethods().length + 1);
        Map<String, Set<String>> calls = new TreeMap<>();
        for (Map.Entry<String, String> method : bodies.entrySet()) {
            calls.put(method.getKey(), callsIn(method.getKey(), method.getValue(), bodies.keySet()));
        }
        for (String name : bodies.keySet()) {
            holds("calls go at most six deep, and never round: " + name, depth(name, calls, new ArrayList<>()) <= 6);
        }
    }

    private static Set<String> callsIn(String name, String body, Set<String> names) {
        Set<String> called = new TreeSet<>();
        Matcher call = Pattern.compile("\\b(\\w+)\\(([^;{]*)").matcher(body);
        for (int from = 0; call.find(from); from = call.start() + 1) {
            if (names.contains(call.group(1))) {
                called.add(call.group(1));
                String arguments = argumentsOf(call.group(2));
                holds("no call among arguments in " + name + ": " + arguments,
                    !Pattern.compile("\\b\\w+\\(").matcher(arguments).find());
            }
        }
        return called;
    }

    private static String argumentsOf(String text) {
        int open = 1;
        for (int i = 0; i < text.length(); i++) {
            open += text.charAt(i) == '(' ? 1 : text.charAt(i) == ')' ? -1 : 0;
            if (open == 0) {
                return text.substring(0, i);
            }
        }
        return text;
    }

    private static int depth(String name, Map<String, Set<String>> calls, List<String> above) {
        if (above.contains(name)) {
            return 1000;
        }
        above.add(name);
        int deepest = 0;
        for (String called : calls.get(name)) {
            deepest = Math.max(deepest, depth(called, calls, above));
        }
        above.remove(name);
        return deepest + 1;
    }
}
