import java.lang.reflect.Field;
import java.lang.reflect.Method;
import java.lang.reflect.Modifier;
import java.nio.file.Files;
import java.nio.file.Path;
import java.util.Arrays;
import java.util.Set;
import java.util.TreeSet;
import java.util.regex.Matcher;
import java.util.regex.Pattern;

/** The public face of the document, and what of LANGUAGE.md can be seen from outside. */
public final class FaceTest {
    private static final String[] FACE = {
        "int feed(int)", "int end(int)", "int text()", "int fault()", "int size(int)", "int bit(int)",
        "int excess(int)", "int rank(int, int)", "int select(int, int)", "int forward(int, int)",
        "int backward(int, int)", "int match(int)", "int least(int, int, int)", "int block(int, int)",
        "int node(int, int)", "int child(int, int)", "int below(int)", "int up(int, int)", "int meet(int, int)",
        "int way(int, int)", "int level(int, int)", "int beside(int, int)", "int deepest(int)",
        "int alike(int, int)", "int weight(int)", "int set(int, int)", "int sum(int, int)", "int heaviest(int)",
        "int plant(int)", "int leaf(int, int, int)", "int prune(int)", "int fell(int)",
        "int wrap(int, int, int, int)", "int melt(int)", "int graft(int, int, int)", "int grow(int, int)",
        "int keep(int)", "int back(int)", "int sheet(int, int, int)", "int lay(int, int, long)",
        "long look(int, int)", "int read(int, int, int, int)", "int stow(int, int, int)", "int torn()",
        "int count(int)"
    };
    private static final String[] WORDS_RULED_OUT = {
        "throw", "throws", "try", "catch", "synchronized", "assert", "import", "package", "protected", "->", "::",
        "Exact", "instanceof", "float", "double"
    };
    private static int wrong = 0;

    private static void due(String what, boolean holds) {
        if (!holds) {
            wrong++;
            System.out.println("not as due: " + what);
        }
    }

    private static String signature(Method m) {
        String types = Arrays.toString(Arrays.stream(m.getParameterTypes()).map(Class::getName).toArray());
        return m.getReturnType().getName() + " " + m.getName() + "(" + types.substring(1, types.length() - 1) + ")";
    }

    private static void methods() {
        Set<String> found = new TreeSet<>();
        Set<String> names = new TreeSet<>();
        for (Method m : ExcessTree.class.getDeclaredMethods()) {
            if (Modifier.isPrivate(m.getModifiers())) {
                continue;
            }
            due(m + " is public and of an object", m.getModifiers() == Modifier.PUBLIC);
            found.add(signature(m));
            names.add(m.getName());
        }
        due("the methods of the face: " + found, found.equals(new TreeSet<>(Arrays.asList(FACE))));
        for (Class<?> c : ExcessTree.class.getDeclaredClasses()) {
            for (Method m : c.getDeclaredMethods()) {
                due(m + " has a name of its own", !names.contains(m.getName()));
            }
        }
        for (Method m : ExcessTree.class.getDeclaredMethods()) {
            due(m + " has a name of its own", !Modifier.isPrivate(m.getModifiers()) || !names.contains(m.getName()));
        }
    }

    private static void fields(Class<?> c) {
        for (Field f : c.getDeclaredFields()) {
            boolean isOfFace = Modifier.isPublic(f.getModifiers());
            due(f + " is private", isOfFace || Modifier.isPrivate(f.getModifiers()));
            due(f + " is final", !Modifier.isStatic(f.getModifiers()) || Modifier.isFinal(f.getModifiers()));
            if (isOfFace) {
                due(f + " is a constant of the face", Set.of("BAD", "STATE", "FULL", "NONE", "OVER").contains(f.getName()));
            }
        }
    }

    private static void classes() {
        int kind = ExcessTree.class.getModifiers();
        due("the class is public and final", Modifier.isPublic(kind) && Modifier.isFinal(kind));
        due("one public constructor", ExcessTree.class.getDeclaredConstructors().length == 1
                && ExcessTree.class.getConstructors().length == 1);
        fields(ExcessTree.class);
        for (Class<?> c : ExcessTree.class.getDeclaredClasses()) {
            due(c + " is private and static", Modifier.isPrivate(c.getModifiers()) && Modifier.isStatic(c.getModifiers()));
            fields(c);
        }
        due("five public fields", ExcessTree.class.getFields().length == 5);
        due("BAD", ExcessTree.BAD == -1);
        due("STATE", ExcessTree.STATE == -2);
        due("FULL", ExcessTree.FULL == -3);
        due("NONE", ExcessTree.NONE == -4);
        due("OVER", ExcessTree.OVER == -5);
    }

    private static void source() throws Exception {
        String code = Files.readString(Path.of("src/main/java/ExcessTree.java"));
        code = code.replaceAll("(?s)/\\*.*?\\*/", "").replaceAll("//.*", "");
        for (String word : WORDS_RULED_OUT) {
            String edge = Character.isLetter(word.charAt(0)) ? "\\b" : "";
            due("no " + word, !Pattern.compile(edge + word + edge).matcher(code).find());
        }
        Set<String> library = Set.of("Long.bitCount", "Math.max", "Math.min", "System.arraycopy");
        Matcher m = Pattern.compile("\\b(Long|Integer|Math|System|Arrays)\\.\\w+").matcher(code);
        while (m.find()) {
            due(m.group() + " is of the library", library.contains(m.group()));
        }
        // What is made is made with the object: a run has one room for all its calls.
        String made = code.substring(code.indexOf("public ExcessTree()"));
        m = Pattern.compile("(?m)^.*\\bnew\\b.*$").matcher(made);
        while (m.find()) {
            String line = m.group().trim();
            boolean inConstructor = line.startsWith("images[k] =") || line.startsWith("sheets[k] =");
            due(line, inConstructor || line.startsWith("private final"));
        }
    }

    public static void main(String[] args) throws Exception {
        methods();
        classes();
        source();
        System.out.println(wrong == 0 ? "the face is as due" : wrong + " things are not as due");
        if (wrong != 0) {
            System.exit(1);
        }
    }
}
