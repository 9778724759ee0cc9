import java.io.IOException;
import java.lang.reflect.Constructor;
import java.lang.reflect.Field;
import java.lang.reflect.Method;
import java.lang.reflect.Modifier;
import java.nio.file.Files;
import java.nio.file.Path;
import java.util.Arrays;
import java.util.Map;
import java.util.TreeMap;
import java.util.TreeSet;
import java.util.regex.Matcher;
import java.util.regex.Pattern;

/** The face is the document's, and the source keeps clear of what LANGUAGE.md rules out (what words can show of it). */
public final class LanguageTest {
    private static final String[] FACE = {
        "public int CobblerCodes.use(int) throws java.lang.IndexOutOfBoundsException",
        "public int CobblerCodes.useAll(int,int,int) throws java.lang.IndexOutOfBoundsException,"
            + "java.lang.IllegalArgumentException",
        "public int CobblerCodes.setLimit(int) throws java.lang.IllegalArgumentException",
        "public int CobblerCodes.wear() throws java.lang.IllegalStateException",
        "public int CobblerCodes.told(int,int) throws java.lang.IndexOutOfBoundsException",
        "public int CobblerCodes.sole(int) throws java.lang.IndexOutOfBoundsException",
        "public int CobblerCodes.node(int,int) throws java.lang.IndexOutOfBoundsException",
        "public int CobblerCodes.count(int) throws java.lang.IndexOutOfBoundsException",
        "public int CobblerCodes.read(int,int) throws java.lang.IllegalArgumentException",
        "public int CobblerCodes.cheapest()",
        "public int CobblerCodes.would(int,int,int) throws java.lang.IndexOutOfBoundsException,"
            + "java.lang.IllegalArgumentException",
        "public int CobblerCodes.advise(int,int,int) throws java.lang.IndexOutOfBoundsException,"
            + "java.lang.IllegalArgumentException",
        "public int CobblerCodes.saved()",
        "public double CobblerCodes.mean()",
        "public long CobblerCodes.digest()",
    };
    private static final String[] RULED_OUT = {"->", "::", "try", "catch", "finally", "synchronized", "assert", "package ",
        "instanceof", "abstract", "volatile", "native", "strictfp", "import static", "Exact(", "List", "Object ", "System.out",
        "Random", "Thread", "hashCode", "equals(", "toString", "static {"};

    // A method, or a constructor: its head, its name, and its body up to the brace below its first sign.
    private static final Pattern METHOD = Pattern.compile(
        "^( +)(?:public|private) (?:static )?(?:\\w+(?:\\[\\])? )?(\\w+)\\([^)]*\\)[^{;]*\\{(.*?)^\\1\\}",
        Pattern.DOTALL | Pattern.MULTILINE);

    public static void main(String[] args) throws IOException {
        TreeSet<String> face = new TreeSet<>();
        TreeSet<String> names = new TreeSet<>();
        for (Method method : CobblerCodes.class.getDeclaredMethods()) {
            if (!Modifier.isPrivate(method.getModifiers())) {
                face.add(method.toGenericString());
                names.add(method.getName());
            }
        }
        Check.due("the face", face.toString(), new TreeSet<>(java.util.List.of(FACE)).toString());
        Constructor<?>[] makers = CobblerCodes.class.getDeclaredConstructors();
        Check.due("the constructors", makers.length == 1 ? makers[0].toGenericString() : "several", "public CobblerCodes()");
        Check.due("the class", Modifier.toString(CobblerCodes.class.getModifiers()), "public final");
        insides(CobblerCodes.class, names);
        for (Class<?> inside : CobblerCodes.class.getDeclaredClasses()) {
            Check.due(inside.getName() + " is static", Modifier.isStatic(inside.getModifiers()), true);
            Check.due(inside.getName() + " is public", Modifier.isPublic(inside.getModifiers()), false);
            insides(inside, names);
        }
        String source = Files.readString(Path.of("src/main/java/CobblerCodes.java"));
        for (String word : RULED_OUT) {
            Check.due("the source holds " + word, source.contains(word), false);
        }
        Check.due("the imports", source.lines().filter(line -> line.startsWith("import")).toList().toString(),
            "[import java.util.Arrays;]");
        Check.due("at most 12 classes", CobblerCodes.class.getDeclaredClasses().length < 12, true);
        methods(source);
        Check.due("the source is of plain signs", source.chars().allMatch(sign -> sign > 0 && sign < 128), true);
        Check.end();
    }

    /** Methods are short, and no chain of calls comes back to where it was or goes more than eight deep. */
    private static void methods(String source) {
        Map<String, String> bodies = new TreeMap<>();
        Matcher m = METHOD.matcher(source);
        while (m.find()) {
            Check.due(m.group(2) + " has at most 60 lines", m.group().lines().count() <= 60, true);
            Check.due("another method is named " + m.group(2), bodies.put(m.group(2), m.group(3)) != null, false);
        }
        int made = members(CobblerCodes.class);
        for (Class<?> inside : CobblerCodes.class.getDeclaredClasses()) {
            made += members(inside);
        }
        Check.due("methods and constructors seen in the source", bodies.size(), made);
        for (String name : bodies.keySet()) {
            Check.due("calls below " + name + " are at most eight deep", depth(name, bodies, 1) <= 8, true);
        }
        Check.due("advise, takeRow, takeOne, wearDown, takeLightest, putNode, put", depth("advise", bodies, 1), 7);
    }

    private static int members(Class<?> type) {
        return type.getDeclaredMethods().length + type.getDeclaredConstructors().length;
    }

    private static int depth(String name, Map<String, String> bodies, int above) {
        int deepest = above;
        for (String other : bodies.keySet()) {
            if (above <= 8 && Pattern.compile("\\b" + other + "\\(").matcher(bodies.get(name)).find()) {
                deepest = Math.max(deepest, depth(other, bodies, above + 1));
            }
        }
        return deepest;
    }

    private static void insides(Class<?> type, TreeSet<String> facesNames) {
        for (Field field : type.getDeclaredFields()) {
            Check.due(field + " is private", Modifier.isPrivate(field.getModifiers()), true);
            Check.due(field + ", if static, is final",
                Modifier.isFinal(field.getModifiers()) || !Modifier.isStatic(field.getModifiers()), true);
        }
        Check.due(type + " has at most 20 fields", fieldsOf(type) <= 20, true);
        for (Method method : type.getDeclaredMethods()) {
            if (Modifier.isPrivate(method.getModifiers())) {
                Check.due(method + " bears a name of the face", facesNames.contains(method.getName()), false);
            }
            Check.due(method + " has at most seven parameters", method.getParameterCount() <= 7, true);
        }
    }

    private static long fieldsOf(Class<?> type) {
        return Arrays.stream(type.getDeclaredFields()).filter(field -> !Modifier.isStatic(field.getModifiers())).count();
    }
}
