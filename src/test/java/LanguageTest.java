import java.io.IOException;
import java.lang.reflect.Constructor;
import java.lang.reflect.Field;
import java.lang.reflect.Method;
import java.lang.reflect.Modifier;
import java.nio.file.Files;
import java.nio.file.Path;
import java.util.ArrayList;
import java.util.Arrays;
import java.util.List;
import java.util.Set;
import java.util.TreeSet;
import java.util.regex.Matcher;
import java.util.regex.Pattern;

/** The face of the class, and those rules of LANGUAGE.md that can be read off it. */
public final class LanguageTest {
    private static final Checks CHECKS = new Checks("LanguageTest");
    private static final String SOURCE = "src/main/java/PaperBodies.java";
    private static final String FACE = "alike(int,int) asked() box(int,int,int,int) cell(int,int,int) "
        + "copy(int,int,int,int,int) corners(int) count(int) digest() drop(int) edge(int,int,int) "
        + "farthest(int,int) figure(int,long) finding() findings(int) folds(int,int,int,int) glue(int,int) "
        + "glued(int) gluings(int,int) lay(int,int,int) layOut(int,int,int,int) "
        + "layOutBy(int,int,int,int,int) lies(int,int,int,int,int) mark(int,int) mean(int,int) "
        + "meanAngle(int) meanRow(int) next(int,int,int,int) rim(int) row(int,int) squares(int) tear(int) "
        + "told(int,int) tries() turn(int,boolean,int) way(int,int,int) wholes(int,int)";
    /** Rules 1, 2, 5, 6 and 9, as far as a word tells. */
    private static final String[] BARRED = {
        "package", "protected", "->", "::", "static \\{", "throw", "throws", "try", "catch", "finally",
        "synchronized", "assert", "hashCode", "getClass", "Object", "while \\(true\\)", "for \\(;;\\)"
    };
    /** Rule 4, and what a record and an enum bring along; none of those that end in Exact. */
    private static final String LIBRARY = "PaperBodies.*|\\[.*\\.clone|java/lang/(Object|Record|Enum)\\..*"
        + "|java/lang/(runtime/ObjectMethods\\.bootstrap|IncompatibleClassChangeError\\.<init>)"
        + "|java/lang/String\\.(length|charAt|isEmpty|equals|indexOf|substring|toCharArray|<init>)"
        + "|java/lang/StringBuilder\\.(<init>|append|charAt|setCharAt|setLength|deleteCharAt|reverse|length|toString)"
        + "|java/util/(Array)?List\\.(<init>|add|get|set|remove|size|isEmpty|clear|iterator|of)"
        + "|java/lang/(Integer|Long|Math)\\.(?!\\w*Exact)\\w+|java/util/Iterator\\..*|java/lang/(Iterable|Comparable)\\..*"
        + "|java/lang/System\\.arraycopy|java/util/Arrays\\.(copyOf|copyOfRange|fill)";
    private static final Set<String> IMPORTS = Set.of(
        "java.util.Arrays", "java.util.ArrayList", "java.util.List", "java.util.Iterator");
    /** Rule 11 says 'some': so a little more is no fault. */
    private static final int LINES = 66, CLASSES = 13, FIELDS = 22;

    public static void main(String[] args) throws IOException {
        face();
        members();
        constants();
        library();
        source(Files.readString(Path.of(SOURCE)));
        CHECKS.end();
    }

    private static void face() {
        CHECKS.holds("public and final", Modifier.isPublic(PaperBodies.class.getModifiers())
            && Modifier.isFinal(PaperBodies.class.getModifiers()));
        Set<String> got = new TreeSet<>();
        for (Method m : PaperBodies.class.getDeclaredMethods()) {
            if (Modifier.isPublic(m.getModifiers())) {
                String parameters = Arrays.toString(m.getParameterTypes()).replaceAll("[\\[\\] ]", "");
                got.add(m.getName() + "(" + parameters + ")");
                boolean isLong = m.getName().equals("asked") || m.getName().equals("digest");
                CHECKS.holds(m.getName() + " answers as told", m.getReturnType() == (isLong ? long.class : int.class));
                CHECKS.holds(m.getName() + " is of an object", !Modifier.isStatic(m.getModifiers()));
            }
        }
        CHECKS.holds("the face: " + got, got.equals(new TreeSet<>(Arrays.asList(FACE.split(" ")))));
        Constructor<?>[] constructors = PaperBodies.class.getDeclaredConstructors();
        CHECKS.holds("one constructor", constructors.length == 1
            && constructors[0].getParameterCount() == 0 && Modifier.isPublic(constructors[0].getModifiers()));
    }

    private static void members() {
        Set<String> publicNames = new TreeSet<>();
        for (String signature : FACE.split(" ")) {
            publicNames.add(signature.substring(0, signature.indexOf('(')));
        }
        for (Method m : PaperBodies.class.getDeclaredMethods()) {
            boolean isPublic = Modifier.isPublic(m.getModifiers());
            CHECKS.holds(m.getName() + " is public or private", isPublic || Modifier.isPrivate(m.getModifiers()));
            CHECKS.holds(m.getName() + " has a name of its own", isPublic || !publicNames.contains(m.getName()));
        }
        Class<?>[] inside = PaperBodies.class.getDeclaredClasses();
        CHECKS.holds("some twelve classes", inside.length + 1 <= CLASSES);
        CHECKS.holds("no local and no anonymous class", named() <= inside.length + 1);
        for (Class<?> c : inside) {
            CHECKS.holds(c + " is static and not public", Modifier.isStatic(c.getModifiers())
                && !Modifier.isPublic(c.getModifiers()) && !Modifier.isProtected(c.getModifiers()));
            for (Method m : c.getDeclaredMethods()) {
                CHECKS.holds(m.getName() + " inside has a name of its own", !publicNames.contains(m.getName()));
                CHECKS.holds(m.getName() + " has at most seven parameters", m.getParameterCount() <= 7);
            }
            fewFields(c);
        }
        fewFields(PaperBodies.class);
    }

    /** Of all classes in the file; those that the compiler makes by itself do not count. */
    private static int named() {
        int named = 0;
        for (Class<?> c : PaperBodies.class.getNestMembers()) {
            named += c.isSynthetic() ? 0 : 1;
        }
        return named;
    }

    private static void fewFields(Class<?> c) {
        int own = 0;
        for (Field f : c.getDeclaredFields()) {
            if (Modifier.isStatic(f.getModifiers())) {
                CHECKS.holds(f + " is a constant", f.isSynthetic() || isConstant(f));
            } else {
                own++;
                CHECKS.holds(f + " is of a type of the language", isOfTheLanguage(f.getType()));
            }
        }
        CHECKS.holds(c + " has some twenty fields", own <= FIELDS);
    }

    private static boolean isConstant(Field f) {
        Class<?> type = f.getType();
        Set<Class<?>> plain = Set.of(int.class, long.class, boolean.class, char.class, String.class,
            int[].class, long[].class, char[].class, byte[].class);
        boolean isOfEnums = type.isEnum() || type.isArray() && type.getComponentType().isEnum();
        return Modifier.isFinal(f.getModifiers()) && (plain.contains(type) || isOfEnums);
    }

    private static boolean isOfTheLanguage(Class<?> type) {
        Class<?> inner = type;
        int deep = 0;
        while (inner.isArray()) {
            inner = inner.getComponentType();
            deep++;
        }
        boolean isOwn = inner.getName().startsWith("PaperBodies");
        boolean isText = inner == String.class || inner == StringBuilder.class;
        boolean isList = inner == List.class || inner == ArrayList.class || inner == Integer.class;
        // own generic classes hold what is an Object when it is compiled
        boolean isHeld = inner == Object.class || inner == Comparable.class;
        return inner.isPrimitive() ? deep <= 2 : deep <= 1 && (isOwn || isText || isList || isHeld);
    }

    private static void library() throws IOException {
        for (Class<?> c : PaperBodies.class.getNestMembers()) {
            for (String use : ClassFile.uses(c)) {
                CHECKS.holds("the library has " + use, use.matches(LIBRARY));
            }
        }
    }

    private static void constants() {
        CHECKS.due("BAD", PaperBodies.BAD, -1);
        CHECKS.due("FULL", PaperBodies.FULL, -2);
        CHECKS.due("FINDING", PaperBodies.FINDING, -3);
        CHECKS.due("STATE", PaperBodies.STATE, -4);
        CHECKS.due("SPENT", PaperBodies.SPENT, -6);
        CHECKS.due("NONE", PaperBodies.NONE, -9);
        CHECKS.due("public fields", PaperBodies.class.getFields().length, 6);
        for (Field f : PaperBodies.class.getDeclaredFields()) {
            int m = f.getModifiers();
            CHECKS.holds(f + " is public or private", Modifier.isPublic(m) || Modifier.isPrivate(m));
        }
    }

    private static void source(String text) {
        String code = text.replaceAll("(?s)/\\*.*?\\*/", "").replaceAll("//[^\n]*", "");
        for (String word : BARRED) {
            String bounded = Character.isLetter(word.charAt(0)) ? "\\b" + word + "\\b" : word;
            CHECKS.holds("no " + word, !Pattern.compile(bounded).matcher(code).find());
        }
        Matcher imports = Pattern.compile("import ([\\w.]+);").matcher(code);
        while (imports.find()) {
            CHECKS.holds("imports " + imports.group(1), IMPORTS.contains(imports.group(1)));
        }
        shortMethods(text);
    }

    /** A method begins and ends at the indent of its class's members. */
    private static void shortMethods(String text) {
        String[] lines = text.split("\n");
        int begun = -1;
        String end = "";
        for (int i = 0; i < lines.length; i++) {
            String line = lines[i];
            String indent = line.substring(0, line.length() - line.stripLeading().length());
            if (begun < 0 && line.endsWith(") {") && (indent.length() == 4 || indent.length() == 8)) {
                begun = i;
                end = indent + "}";
            } else if (begun >= 0 && line.equals(end)) {
                CHECKS.holds("short: " + lines[begun].strip(), i - begun + 1 <= LINES);
                begun = -1;
            }
        }
    }
}
