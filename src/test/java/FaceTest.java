import java.io.IOException;
import java.lang.reflect.Field;
import java.lang.reflect.Method;
import java.lang.reflect.Modifier;
import java.nio.file.Files;
import java.nio.file.Path;
import java.util.Map;
import java.util.Set;
import java.util.TreeMap;
import java.util.TreeSet;
import java.util.regex.Matcher;
import java.util.regex.Pattern;

/** The public face of the document, and those rules of LANGUAGE.md that members and words can show. */
public final class FaceTest {
    private static final Set<String> FACE = Set.of(
        "boolean act(int,int,int,int)", "boolean end(int,int,int,int,int)", "int number(int)",
        "int chief(int)", "int tail(int)", "int set(int,int)", "int depth(int)", "int head(int)",
        "boolean straight()", "int merges(int)", "int live(int)", "int known(int,int)", "int words()",
        "int word(int)", "int run(long,int)", "int ran(int)");
    private static final String[] FORBIDDEN = {
        "import", "package", "String", "Math", "Integer", "System", "Arrays", "Object", "float", "double",
        "null", "throw", "throws", "try", "catch", "synchronized", "assert", "instanceof", "protected",
        "interface", "enum", "record", "->", "::", "[][]"};

    private static final int MOST_LINES = 60;
    private static final int MOST_CALLS_DEEP = 6;

    private static int wrong = 0;

    private static void check(String what, boolean holds) {
        if (!holds) {
            wrong++;
            System.out.println("not so: " + what);
        }
    }

    public static void main(String[] args) throws IOException {
        check("public and final", Modifier.isPublic(GraphShaper.class.getModifiers())
            && Modifier.isFinal(GraphShaper.class.getModifiers()));
        check("no nested class", GraphShaper.class.getDeclaredClasses().length == 0);
        check("one constructor, public", GraphShaper.class.getDeclaredConstructors().length == 1
            && GraphShaper.class.getConstructors().length == 1
            && GraphShaper.class.getConstructors()[0].getParameterCount() == 0);
        methods();
        fields();
        String source = Files.readString(Path.of("src/main/java/GraphShaper.java"));
        String bare = source.replaceAll("(?s)/\\*.*?\\*/", " ").replaceAll("//[^\n]*", " ");
        words(bare);
        Map<String, String> bodies = bodies(bare);
        check("every method's text is found: " + bodies.keySet(), bodies.keySet().equals(declared()));
        calls(bodies);
        System.out.println(wrong == 0 ? "the face is as due" : wrong + " things are not as due");
        if (wrong != 0) {
            System.exit(1);
        }
    }

    private static void methods() {
        Set<String> found = new TreeSet<>();
        Set<String> names = new TreeSet<>();
        for (Method m : GraphShaper.class.getDeclaredMethods()) {
            check(m.getName() + " has at most seven parameters", m.getParameterCount() <= 7);
            if (Modifier.isPrivate(m.getModifiers())) {
                names.add(m.getName());
                continue;
            }
            StringBuilder parameters = new StringBuilder();
            for (Class<?> type : m.getParameterTypes()) {
                parameters.append(parameters.length() == 0 ? "" : ",").append(type.getName());
            }
            found.add(m.getReturnType().getName() + " " + m.getName() + "(" + parameters + ")");
            check(m.getName() + " is public, not static",
                Modifier.isPublic(m.getModifiers()) && !Modifier.isStatic(m.getModifiers()));
        }
        check("the methods are those of the document: " + found, found.equals(FACE));
        for (String face : FACE) {
            String name = face.substring(face.indexOf(' ') + 1, face.indexOf('('));
            check("no private method is named " + name, !names.contains(name));
        }
    }

    private static void fields() {
        int held = 0;
        for (Field f : GraphShaper.class.getDeclaredFields()) {
            boolean constant = Modifier.isStatic(f.getModifiers());
            held += constant ? 0 : 1;
            if (f.getName().equals("REFUSED")) {
                check("REFUSED is a public constant", constant && Modifier.isPublic(f.getModifiers())
                    && Modifier.isFinal(f.getModifiers()) && f.getType() == int.class);
            } else {
                check(f.getName() + " is private", Modifier.isPrivate(f.getModifiers()));
            }
            Class<?> type = f.getType().isArray() ? f.getType().getComponentType() : f.getType();
            check(f.getName() + " is of numbers", type.isPrimitive());
            check(f.getName() + ", if static, is a constant", !constant
                || Modifier.isFinal(f.getModifiers()) && (type == int.class || type == long.class)
                && !f.getType().isArray());
        }
        check("at most forty fields: " + held, held <= 40);
    }

    private static void words(String bare) {
        for (String word : FORBIDDEN) {
            boolean letters = Character.isLetter(word.charAt(0));
            String pattern = letters ? "\\b" + word + "\\b" : Pattern.quote(word);
            check("the source is without " + word, !Pattern.compile(pattern).matcher(bare).find());
        }
        for (String line : bare.split("\n")) {
            check("an array is made in a field alone: " + line.strip(),
                !line.contains("new ") || line.startsWith("    private final "));
        }
    }

    /** The constructor among them. */
    private static Set<String> declared() {
        Set<String> names = new TreeSet<>(Set.of(GraphShaper.class.getName()));
        for (Method m : GraphShaper.class.getDeclaredMethods()) {
            names.add(m.getName());
        }
        return names;
    }

    /** The texts of the methods, by their names: no two have the same. */
    private static Map<String, String> bodies(String bare) {
        Map<String, String> found = new TreeMap<>();
        Matcher m = Pattern.compile("(?ms)^    [a-z][a-z ]* (\\w+)\\([^)]*\\) \\{\n(.*?)^    \\}").matcher(bare);
        while (m.find()) {
            check("one method alone is named " + m.group(1), found.put(m.group(1), m.group(2)) == null);
        }
        return found;
    }

    private static void calls(Map<String, String> bodies) {
        Map<String, Set<String>> called = new TreeMap<>();
        for (String name : bodies.keySet()) {
            String body = bodies.get(name);
            check(name + " is short", body.split("\n").length <= MOST_LINES);
            called.put(name, calledIn(body, bodies.keySet(), name));
        }
        for (String name : called.keySet()) {
            check("calls from " + name + " go at most six deep, and never back", deep(name, called, 1));
        }
    }

    private static Set<String> calledIn(String body, Set<String> methods, String name) {
        Set<String> found = new TreeSet<>();
        Matcher m = Pattern.compile("(\\w+)\\(").matcher(body);
        while (m.find()) {
            if (methods.contains(m.group(1))) {
                found.add(m.group(1));
                String arguments = arguments(body, m.end());
                check(name + " has no call in the arguments of another: " + arguments,
                    !Pattern.compile("\\w\\(").matcher(arguments).find());
            }
        }
        return found;
    }

    private static String arguments(String body, int from) {
        int open = 1;
        int at = from;
        while (open > 0) {
            char c = body.charAt(at++);
            open += c == '(' ? 1 : c == ')' ? -1 : 0;
        }
        return body.substring(from, at - 1);
    }

    /** A call that comes back to its own method is found too, as it goes deeper without an end. */
    private static boolean deep(String name, Map<String, Set<String>> called, int depth) {
        if (depth > MOST_CALLS_DEEP) {
            return false;
        }
        for (String next : called.get(name)) {
            if (!deep(next, called, depth + 1)) {
                return false;
            }
        }
        return true;
    }
}
