import java.io.IOException;
import java.lang.reflect.Field;
import java.lang.reflect.Method;
import java.lang.reflect.Modifier;
import java.nio.file.Files;
import java.nio.file.Path;
import java.util.Set;
import java.util.TreeSet;

/** The public face of the document, and those rules of LANGUAGE.md that members and words can show. */
public final class FaceTest {
    private static final Set<String> FACE = Set.of(
        "boolean act(int,int,int,int)", "boolean end(int,int,int,int,int)", "int number(int)",
        "int chief(int)", "int tail(int)", "int set(int,int)", "int depth(int)", "int head(int)",
        "boolean straight()", "int merges(int)", "int live(int)", "int known(int,int)", "int words()",
        "int word(int)", "int run(long,int)", "int ran(int)");
    private static final String[] FORBIDDEN = {
        "import", "package", "String", "Math", "Integer", "System", "Arrays", "Object", "float", "double",
        "null", "throw", "throws", "try", "catch", "synchronized", "assert", "instanceof", "protected",
        "interface", "enum", "record", "->", "::", "[][]"};

    private static int wrong = 0;

    private static void check(String what, boolean holds) {
        if (!holds) {
            wrong++;
            System.out.println("not so: " + what);
        }
    }

    public static void main(String[] args) throws IOException {
        check("public and final", Modifier.isPublic(GraphShaper.class.getModifiers())
            && Modifier.isFinal(GraphShaper.class.getModifiers()));
        check("no nested class", GraphShaper.class.getDeclaredClasses().length == 0);
        check("one constructor, public", GraphShaper.class.getDeclaredConstructors().length == 1
            && GraphShaper.class.getConstructors().length == 1
            && GraphShaper.class.getConstructors()[0].getParameterCount() == 0);
        methods();
        fields();
        words();
        System.out.println(wrong == 0 ? "the face is as due" : wrong + " things are not as due");
        if (wrong != 0) {
            System.exit(1);
        }
    }

    private static void methods() {
        Set<String> found = new TreeSet<>();
        Set<String> names = new TreeSet<>();
        for (Method m : GraphShaper.class.getDeclaredMethods()) {
            check(m.getName() + " has at most seven parameters", m.getParameterCount() <= 7);
            if (Modifier.isPrivate(m.getModifiers())) {
                names.add(m.getName());
                continue;
            }
            StringBuilder parameters = new StringBuilder();
            for (Class<?> type : m.getParameterTypes()) {
                parameters.append(parameters.length() == 0 ? "" : ",").append(type.getName());
            }
            found.add(m.getReturnType().getName() + " " + m.getName() + "(" + parameters + ")");
            check(m.getName() + " is public, not static",
                Modifier.isPublic(m.getModifiers()) && !Modifier.isStatic(m.getModifiers()));
        }
        check("the methods are those of the document: " + found, found.equals(FACE));
        for (String face : FACE) {
            String name = face.substring(face.indexOf(' ') + 1, face.indexOf('('));
            check("no private method is named " + name, !names.contains(name));
        }
    }

    private static void fields() {
        int held = 0;
        for (Field f : GraphShaper.class.getDeclaredFields()) {
            boolean constant = Modifier.isStatic(f.getModifiers());
            held += constant ? 0 : 1;
            if (f.getName().equals("REFUSED")) {
                check("REFUSED is a public constant", constant && Modifier.isPublic(f.getModifiers())
                    && Modifier.isFinal(f.getModifiers()) && f.getType() == int.class);
            } else {
                check(f.getName() + " is private", Modifier.isPrivate(f.getModifiers()));
            }
            Class<?> type = f.getType().isArray() ? f.getType().getComponentType() : f.getType();
            check(f.getName() + " is of numbers", type.isPrimitive());
            check(f.getName() + ", if static, is a constant", !constant
                || Modifier.isFinal(f.getModifiers()) && (type == int.class || type == long.class)
                && !f.getType().isArray());
        }
        check("at most forty fields: " + held, held <= 40);
    }

    private static void words() throws IOException {
        String source = Files.readString(Path.of("src/main/java/GraphShaper.java"));
        String bare = source.replaceAll("(?s)/\\*.*?\\*/", " ").replaceAll("//[^\n]*", " ");
        for (String word : FORBIDDEN) {
            boolean letters = Character.isLetter(word.charAt(0));
            String pattern = letters ? "\\b" + word + "\\b" : java.util.regex.Pattern.quote(word);
            check("the source is without " + word, !java.util.regex.Pattern.compile(pattern).matcher(bare).find());
        }
        for (String line : bare.split("\n")) {
            check("an array is made in a field alone: " + line.strip(),
                !line.contains("new ") || line.startsWith("    private final "));
        }
    }
}
