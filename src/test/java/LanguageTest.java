import java.io.IOException;
import java.lang.reflect.Constructor;
import java.lang.reflect.Field;
import java.lang.reflect.Method;
import java.lang.reflect.Modifier;
import java.nio.file.Files;
import java.nio.file.Path;
import java.util.ArrayList;
import java.util.HashMap;
import java.util.HashSet;
import java.util.List;
import java.util.Map;
import java.util.Set;
import java.util.TreeSet;
import java.util.regex.Matcher;
import java.util.regex.Pattern;

/** The rules of LANGUAGE.md that can be seen in the class's members and in the text of its source. */
public final class LanguageTest {
    private static final Checks C = new Checks();
    private static final Path SOURCE = Path.of("src/main/java/RelayDesk.java");
    private static final Set<String> FACE = Set.of(
        "boolean server(int,int,int,int)", "int route(int,int)", "boolean unroute(int)",
        "boolean damage(int,boolean)", "boolean set(int,int)", "boolean limit(int,int,int)", "int advance(int)",
        "int arrive(int,int,int,int,int)", "int time()", "int state(int)", "int about(int,int)", "int at(int,int)",
        "int tokens(int)", "int queued(int)", "long total(int)", "int took(int)", "int home(int)");
    private static final Pattern HEADER = Pattern.compile("^    (?:public|private)[\\w\\[\\] ]* (\\w+)\\((.*)\\) \\{$");
    private static final Pattern CALL = Pattern.compile("\\b([a-z]\\w*)\\(");
    private static final Set<String> NOT_CALLS = Set.of("if", "for", "while", "switch", "return");

    private static final Map<String, Set<String>> calls = new HashMap<>();

    public static void main(String[] args) throws IOException {
        members();
        String text = Files.readString(SOURCE).replaceAll("(?s)/\\*.*?\\*/", "").replaceAll("//[^\n]*", "");
        words(text);
        arraysAreFields(text);
        methods(text);
        for (String method : calls.keySet()) {
            C.due("rule 10: calls go at most six deep from " + method, depth(method, new ArrayList<>()) <= 6, true);
        }
        C.end();
    }

    private static void members() {
        Class<RelayDesk> type = RelayDesk.class;
        C.due("rule 1: public and final", type.getModifiers(), Modifier.PUBLIC | Modifier.FINAL);
        C.due("rule 1: nested classes", type.getDeclaredClasses().length, 0);
        C.due("rule 1: no package", type.getPackageName().isEmpty(), true);
        Constructor<?>[] constructors = type.getDeclaredConstructors();
        C.due("rule 1: constructors", constructors.length, 1);
        C.due("rule 1: constructor is public", constructors[0].getModifiers(), Modifier.PUBLIC);
        C.due("rule 1: constructor's parameters", constructors[0].getParameterCount(), 0);
        Set<String> face = new TreeSet<>();
        Set<String> publicNames = new HashSet<>();
        for (Method m : type.getDeclaredMethods()) {
            if (!Modifier.isPrivate(m.getModifiers())) {
                face.add(signature(m));
                publicNames.add(m.getName());
                C.due("rule 1: modifiers of " + m.getName(), m.getModifiers(), Modifier.PUBLIC);
            }
            C.due("rule 2: answer of " + m.getName(), isNumber(m.getReturnType()), true);
        }
        C.due("rule 1: the public methods " + face, face.equals(FACE), true);
        for (Method m : type.getDeclaredMethods()) {
            if (Modifier.isPrivate(m.getModifiers())) {
                C.due("rule 1: private " + m.getName(), publicNames.contains(m.getName()), false);
            }
            C.due("rule 10: parameters of " + m.getName(), m.getParameterCount() <= 7, true);
        }
        fields(type.getDeclaredFields());
    }

    private static void fields(Field[] all) {
        int count = 0;
        Set<String> constants = new TreeSet<>();
        for (Field f : all) {
            Class<?> type = f.getType();
            if (Modifier.isStatic(f.getModifiers())) {
                C.due("rule 5: " + f.getName(), type == int.class || type == long.class, true);
                C.due("rule 5: final " + f.getName(), Modifier.isFinal(f.getModifiers()), true);
            } else {
                count++;
                C.due("rule 2: " + f.getName(), isNumber(type.isArray() ? type.getComponentType() : type), true);
            }
            if (!Modifier.isPrivate(f.getModifiers())) {
                constants.add(f.getName());
            }
        }
        C.due("rule 1: public constants " + constants,
            constants.equals(new TreeSet<>(Set.of("REFUSED", "FULL", "LIMITED"))), true);
        C.due("rule 10: some forty fields, " + count, count <= 40, true);
    }

    private static String signature(Method m) {
        List<String> types = new ArrayList<>();
        for (Class<?> t : m.getParameterTypes()) {
            types.add(t.getName());
        }
        return m.getReturnType().getName() + " " + m.getName() + "(" + String.join(",", types) + ")";
    }

    private static boolean isNumber(Class<?> type) {
        return type.isPrimitive() && type != float.class && type != double.class;
    }

    private static void words(String text) {
        String[] forbidden = {"import", "package", "null", "throw", "throws", "try", "catch", "synchronized", "assert",
            "instanceof", "float", "double", "String", "Math", "Integer", "Long", "System", "Arrays", "Object", "var",
            "class .*class", "interface", "enum", "record", "protected", "static \\{"};
        for (String word : forbidden) {
            C.due("rules 1 to 6: the word " + word, Pattern.compile("\\b" + word + "\\b").matcher(text).find(), false);
        }
        for (String sign : new String[] {"->", "::", "\"", "'", "@"}) {
            C.due("rules 2 to 6: the sign " + sign, text.contains(sign), false);
        }
    }

    private static void arraysAreFields(String text) {
        Pattern made = Pattern.compile("^    private final (\\w+)\\[\\] \\w+ = new \\1\\[[A-Z]+\\];$");
        for (String line : text.split("\n")) {
            if (line.matches(".*\\bnew\\b.*")) {
                C.due("rule 4: " + line.trim(), made.matcher(line).matches(), true);
            }
        }
    }

    private static void methods(String text) {
        String name = "";
        int from = 0;
        String[] lines = text.split("\n");
        Set<String> own = new HashSet<>();
        for (int k = 0; k < lines.length; k++) {
            Matcher header = HEADER.matcher(lines[k]);
            if (header.matches()) {
                name = header.group(1);
                from = k;
                own = new TreeSet<>();
                calls.put(name, own);
            } else {
                Matcher call = CALL.matcher(lines[k]);
                while (call.find()) {
                    if (!NOT_CALLS.contains(call.group(1))) {
                        own.add(call.group(1));
                        String rest = argumentsAt(lines[k], call.end());
                        C.due("rule 10: a call in the arguments of " + call.group(1) + " in " + name,
                            CALL.matcher(rest).find(), false);
                    }
                }
            }
            if (lines[k].equals("    }")) {
                C.due("rule 10: length of " + name, k - from + 1 <= 60, true);
            }
        }
        C.due("methods were found", calls.size(), RelayDesk.class.getDeclaredMethods().length + 1);
    }

    private static String argumentsAt(String line, int from) {
        int depth = 1;
        int to = from;
        while (to < line.length() && depth > 0) {
            depth += line.charAt(to) == '(' ? 1 : line.charAt(to) == ')' ? -1 : 0;
            to++;
        }
        return line.substring(from, to);
    }

    private static int depth(String method, List<String> above) {
        C.due("rules 3 and 8: " + method + " is the class's own", calls.containsKey(method), true);
        C.due("rule 8: recursion in " + method, above.contains(method), false);
        if (above.contains(method) || !calls.containsKey(method)) {
            return 1;
        }
        List<String> path = new ArrayList<>(above);
        path.add(method);
        int deepest = 0;
        for (String callee : calls.get(method)) {
            deepest = Math.max(deepest, depth(callee, path));
        }
        return deepest + 1;
    }
}
