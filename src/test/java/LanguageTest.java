import java.io.IOException;
import java.lang.reflect.Constructor;
import java.lang.reflect.Field;
import java.lang.reflect.Method;
import java.lang.reflect.Modifier;
import java.nio.file.Files;
import java.nio.file.Path;
import java.util.TreeSet;

/** The face is the document's, and the source keeps clear of what LANGUAGE.md rules out (what words can show of it). */
public final class LanguageTest {
    private static final String[] FACE = {
        "public int CobblerCodes.use(int) throws java.lang.IndexOutOfBoundsException",
        "public int CobblerCodes.useAll(int,int,int) throws java.lang.IndexOutOfBoundsException,"
            + "java.lang.IllegalArgumentException",
        "public int CobblerCodes.setLimit(int) throws java.lang.IllegalArgumentException",
        "public int CobblerCodes.wear() throws java.lang.IllegalStateException",
        "public int CobblerCodes.told(int,int) throws java.lang.IndexOutOfBoundsException",
        "public int CobblerCodes.sole(int) throws java.lang.IndexOutOfBoundsException",
        "public int CobblerCodes.node(int,int) throws java.lang.IndexOutOfBoundsException",
        "public int CobblerCodes.count(int) throws java.lang.IndexOutOfBoundsException",
        "public int CobblerCodes.read(int,int) throws java.lang.IllegalArgumentException",
        "public int CobblerCodes.cheapest()",
        "public int CobblerCodes.would(int,int,int) throws java.lang.IndexOutOfBoundsException,"
            + "java.lang.IllegalArgumentException",
        "public int CobblerCodes.advise(int,int,int) throws java.lang.IndexOutOfBoundsException,"
            + "java.lang.IllegalArgumentException",
        "public int CobblerCodes.saved()",
        "public double CobblerCodes.mean()",
        "public long CobblerCodes.digest()",
    };
    private static final String[] RULED_OUT = {"->", "::", "try", "catch", "finally", "synchronized", "assert", "package ",
        "instanceof", "abstract", "volatile", "native", "strictfp", "import static", "Exact(", "List", "Object ", "System.out",
        "Random", "Thread", "hashCode", "equals(", "toString", "static {"};

    public static void main(String[] args) throws IOException {
        TreeSet<String> face = new TreeSet<>();
        TreeSet<String> names = new TreeSet<>();
        for (Method method : CobblerCodes.class.getDeclaredMethods()) {
            if (!Modifier.isPrivate(method.getModifiers())) {
                face.add(method.toGenericString());
                names.add(method.getName());
            }
        }
        Check.due("the face", face.toString(), new TreeSet<>(java.util.List.of(FACE)).toString());
        Constructor<?>[] makers = CobblerCodes.class.getDeclaredConstructors();
        Check.due("the constructors", makers.length == 1 ? makers[0].toGenericString() : "several", "public CobblerCodes()");
        Check.due("the class", Modifier.toString(CobblerCodes.class.getModifiers()), "public final");
        insides(CobblerCodes.class, names);
        for (Class<?> inside : CobblerCodes.class.getDeclaredClasses()) {
            Check.due(inside.getName() + " is static", Modifier.isStatic(inside.getModifiers()), true);
            Check.due(inside.getName() + " is public", Modifier.isPublic(inside.getModifiers()), false);
            insides(inside, names);
        }
        String source = Files.readString(Path.of("src/main/java/CobblerCodes.java"));
        for (String word : RULED_OUT) {
            Check.due("the source holds " + word, source.contains(word), false);
        }
        Check.due("the imports", source.lines().filter(line -> line.startsWith("import")).toList().toString(),
            "[import java.util.Arrays;]");
        Check.due("the source is of plain signs", source.chars().allMatch(sign -> sign > 0 && sign < 128), true);
        Check.end();
    }

    private static void insides(Class<?> type, TreeSet<String> facesNames) {
        for (Field field : type.getDeclaredFields()) {
            Check.due(field + " is private", Modifier.isPrivate(field.getModifiers()), true);
            Check.due(field + ", if static, is final",
                Modifier.isFinal(field.getModifiers()) || !Modifier.isStatic(field.getModifiers()), true);
        }
        for (Method method : type.getDeclaredMethods()) {
            if (Modifier.isPrivate(method.getModifiers())) {
                Check.due(method + " bears a name of the face", facesNames.contains(method.getName()), false);
            }
            Check.due(method + " has at most seven parameters", method.getParameterCount() <= 7, true);
        }
    }
}
