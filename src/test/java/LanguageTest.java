import java.io.IOException;
import java.lang.reflect.Constructor;
import java.lang.reflect.Field;
import java.lang.reflect.Method;
import java.lang.reflect.Modifier;
import java.nio.file.Files;
import java.nio.file.Path;
import java.util.Arrays;
import java.util.HashSet;
import java.util.List;
import java.util.Map;
import java.util.Set;
import java.util.TreeMap;
import java.util.TreeSet;
import java.util.regex.Matcher;
import java.util.regex.Pattern;

/**
 * The public face of the document, and the rules of LANGUAGE.md that can be seen in the class's members,
 * words, loops and calls. The first argument is the path of the class's source.
 */
public final class LanguageTest {
    private static final String FACE = "item(1) write(1) recall(1) expire(1) lines(0) time(1) length(1) at(2) "
        + "groups(0) group(1) members(1) largest(1) column(3) having(1) part(1) blank(0) fitting(2) next(1) "
        + "fittingGroups(0) between(2) burst(1) digest(0)";

    private static final List<String> BARRED_WORDS = List.of("import", "package", "throw", "throws", "try",
        "catch", "finally", "synchronized", "assert", "instanceof", "null", "float", "double", "String",
        "Math", "Integer", "System", "Arrays", "Object", "interface", "enum", "record", "protected", "var",
        "native", "transient", "volatile", "toString", "equals", "hashCode", "getClass", "clone");

    private static final Pattern COUNTED_LOOP = Pattern.compile(
        "(?m)^( +)for \\(int (\\w+) = \\w+; \\2 < [\\w\\[\\]]+; \\2\\+\\+\\) \\{$");

    public static void main(String[] args) throws IOException {
        publicFace();
        members();
        fields();
        words(code(args[0]));
        arrays(code(args[0]));
        loops(code(args[0]));
        arguments(code(args[0]));
        callDepth(code(args[0]));
        Check.finish();
    }

    private static void publicFace() {
        Class<?> type = LineArchive.class;
        Check.holds("the class is public and final",
            Modifier.isPublic(type.getModifiers()) && Modifier.isFinal(type.getModifiers()));
        Check.holds("the class has no package", type.getPackageName().isEmpty());
        Check.due("nested classes", type.getDeclaredClasses().length, 0);
        Constructor<?>[] constructors = type.getDeclaredConstructors();
        Check.due("constructors", constructors.length, 1);
        Check.holds("the constructor is public", Modifier.isPublic(constructors[0].getModifiers()));
        Check.due("the constructor's parameters", constructors[0].getParameterCount(), 0);

        Set<String> due = new TreeSet<>(Arrays.asList(FACE.split(" ")));
        Set<String> found = new TreeSet<>();
        for (Method method : type.getDeclaredMethods()) {
            if (Modifier.isPublic(method.getModifiers())) {
                found.add(method.getName() + "(" + method.getParameterCount() + ")");
                Check.holds(method + " answers an int", method.getReturnType() == int.class);
                Check.holds(method + " isn't static", !Modifier.isStatic(method.getModifiers()));
                for (Class<?> parameter : method.getParameterTypes()) {
                    Check.holds(method + " takes ints", parameter == int.class);
                }
            }
        }
        Check.holds("the public methods are " + due + ", found " + found, due.equals(found));
    }

    private static void members() {
        Set<String> publicNames = new HashSet<>();
        for (Method method : LineArchive.class.getDeclaredMethods()) {
            if (Modifier.isPublic(method.getModifiers())) {
                publicNames.add(method.getName());
            }
        }
        for (Method method : LineArchive.class.getDeclaredMethods()) {
            boolean isPrivate = Modifier.isPrivate(method.getModifiers());
            Check.holds(method + " is public or private", isPrivate || Modifier.isPublic(method.getModifiers()));
            Check.holds(method + " has a name of its own", !isPrivate || !publicNames.contains(method.getName()));
            Check.holds(method + " has at most seven parameters", method.getParameterCount() <= 7);
            Check.holds(method + " answers a number, a boolean or nothing", method.getReturnType().isPrimitive());
            for (Class<?> parameter : method.getParameterTypes()) {
                Check.holds(method + " takes numbers and rows of them", isOfNumbers(parameter));
            }
        }
    }

    private static void fields() {
        Set<String> publicNames = new TreeSet<>();
        int count = 0;
        for (Field field : LineArchive.class.getDeclaredFields()) {
            int modifiers = field.getModifiers();
            if (Modifier.isStatic(modifiers)) {
                Check.holds(field + " is a constant",
                    Modifier.isFinal(modifiers) && (field.getType() == int.class || field.getType() == long.class));
            } else {
                count++;
                Check.holds(field + " has a type of numbers", isOfNumbers(field.getType()));
                Check.holds(field + " is final if it is an array",
                    !field.getType().isArray() || Modifier.isFinal(modifiers));
            }
            if (Modifier.isPublic(modifiers)) {
                publicNames.add(field.getName());
            } else {
                Check.holds(field + " is private", Modifier.isPrivate(modifiers));
            }
        }
        Check.holds("the public fields are BAD, FULL and NONE, found " + publicNames,
            publicNames.equals(Set.of("BAD", "FULL", "NONE")));
        Check.holds("at most forty fields, found " + count, count <= 40);
    }

    private static boolean isOfNumbers(Class<?> type) {
        Class<?> cell = type.isArray() ? type.getComponentType() : type;
        return cell.isPrimitive() && cell != float.class && cell != double.class;
    }

    private static String code(String path) throws IOException {
        String text = Files.readString(Path.of(path));
        return text.replaceAll("(?s)/\\*.*?\\*/", " ").replaceAll("//[^\n]*", " ");
    }

    private static void words(String code) {
        for (String word : BARRED_WORDS) {
            Check.holds("the word " + word + " is not in the class",
                !Pattern.compile("\\b" + word + "\\b").matcher(code).find());
        }
        Check.holds("no lambda", !code.contains("->"));
        Check.holds("no method reference", !code.contains("::"));
        Check.holds("no text", !code.contains("\""));
        Check.holds("no array of arrays", !code.replaceAll("\\s", "").contains("[][]"));
        Check.holds("no static initialiser", !Pattern.compile("\\bstatic\\s*\\{").matcher(code).find());
    }

    private static void arrays(String code) {
        Matcher made = Pattern.compile("[^\n]*\\bnew\\b[^\n]*").matcher(code);
        while (made.find()) {
            Check.holds("an array is made in a field's initialiser: " + made.group(),
                made.group().matches("    private final \\w+\\[\\] \\w+ = new \\w+\\[[A-Z_0-9]+\\];"));
        }
    }

    /** Every loop counts up against a bound, and nothing in it sets its counter. */
    private static void loops(String code) {
        Check.holds("no loop but for", !Pattern.compile("\\b(while|do)\\b").matcher(code).find());
        Check.due("loops that count against a bound", COUNTED_LOOP.matcher(code).results().count(),
            Pattern.compile("\\bfor\\b").matcher(code).results().count());
        Matcher loop = COUNTED_LOOP.matcher(code);
        while (loop.find()) {
            String body = code.substring(loop.end(), code.indexOf("\n" + loop.group(1) + "}", loop.end()));
            String counterSet = "\\b" + loop.group(2) + " *(\\+\\+|--|[-+*/%&|^]?=[^=])";
            Check.holds("a loop leaves its counter alone: " + loop.group().strip(),
                !Pattern.compile(counterSet).matcher(body).find());
        }
    }

    /** No call stands inside the arguments of another call. */
    private static void arguments(String code) {
        Set<String> notCalls = Set.of("if", "for", "while", "switch", "return");
        Matcher call = Pattern.compile("\\b(\\w+)\\(").matcher(code);
        while (call.find()) {
            if (notCalls.contains(call.group(1))) {
                continue;
            }
            int depth = 1;
            int end = call.end();
            while (end < code.length() && depth > 0) {
                depth += code.charAt(end) == '(' ? 1 : code.charAt(end) == ')' ? -1 : 0;
                end++;
            }
            String inside = code.substring(call.end(), end);
            Check.holds("no call inside the arguments of " + call.group(1) + "(" + inside,
                !Pattern.compile("\\w\\(").matcher(inside).find());
        }
    }

    /** The lines of each method, by its name. */
    private static Map<String, String> methods(String code) {
        Map<String, String> bodies = new TreeMap<>();
        Matcher method = Pattern.compile("(?m)^    (?:public|private)[\\w ]* (\\w+)\\([^)]*\\) \\{$([\\s\\S]*?)^    }$")
            .matcher(code);
        while (method.find()) {
            bodies.put(method.group(1), method.group(2));
        }
        return bodies;
    }

    /** No recursion, calls at most six deep, and methods of at most sixty lines. */
    private static void callDepth(String code) {
        Map<String, String> bodies = methods(code);
        Set<String> declared = new TreeSet<>();
        for (Method method : LineArchive.class.getDeclaredMethods()) {
            declared.add(method.getName());
        }
        declared.add("LineArchive");
        Check.holds("every method is found in the text: " + declared + ", found " + bodies.keySet(),
            declared.equals(bodies.keySet()));
        // Each round leaves the methods that call one of those left; who is left after six goes deeper.
        Set<String> deep = new TreeSet<>(bodies.keySet());
        for (int round = 0; round < 6; round++) {
            Set<String> callers = new TreeSet<>();
            for (String name : deep) {
                for (String called : deep) {
                    if (Pattern.compile("\\b" + called + "\\(").matcher(bodies.get(name)).find()) {
                        callers.add(name);
                    }
                }
            }
            deep = callers;
        }
        Check.holds("no recursion and no call above six deep, found " + deep, deep.isEmpty());
        for (Map.Entry<String, String> method : bodies.entrySet()) {
            Check.holds(method.getKey() + " is short", method.getValue().lines().count() <= 60);
        }
    }
}
