import java.io.IOException;
import java.lang.reflect.Constructor;
import java.lang.reflect.Field;
import java.lang.reflect.Method;
import java.lang.reflect.Modifier;
import java.nio.file.Files;
import java.nio.file.Path;
import java.util.Arrays;
import java.util.Set;
import java.util.TreeSet;
import java.util.regex.Matcher;
import java.util.regex.Pattern;

/** The face of the class, and those rules of LANGUAGE.md that can be read off it. */
public final class LanguageTest {
    private static final Checks CHECKS = new Checks("LanguageTest");
    private static final String SOURCE = "src/main/java/PaperBodies.java";
    private static final String FACE = "alike(int,int) asked() box(int,int,int,int) cell(int,int,int) "
        + "copy(int,int,int,int,int) corners(int) count(int) digest() drop(int) edge(int,int,int) "
        + "farthest(int,int) figure(int,long) finding() findings(int) folds(int,int,int,int) glue(int,int) "
        + "glued(int) gluings(int,int) lay(int,int,int) layOut(int,int,int,int) "
        + "layOutBy(int,int,int,int,int) lies(int,int,int,int,int) mark(int,int) mean(int,int) "
        + "meanAngle(int) meanRow(int) next(int,int,int,int) rim(int) row(int,int) squares(int) tear(int) "
        + "told(int,int) tries() turn(int,boolean,int) way(int,int,int) wholes(int,int)";
    private static final String[] BARRED = {
        "throw", "throws", "try", "catch", "finally", "synchronized", "assert", "protected", "package",
        "Object", "hashCode", "toString", "->", "::", "var", "record", "sealed", "Random", "Thread",
        "Math\\.\\w*Exact", "nanoTime", "currentTimeMillis", "Integer\\.MAX_VALUE", "Scanner", "getClass"
    };

    public static void main(String[] args) throws IOException {
        face();
        members();
        constants();
        source(Files.readString(Path.of(SOURCE)));
        CHECKS.end();
    }

    private static void face() {
        CHECKS.holds("public and final", Modifier.isPublic(PaperBodies.class.getModifiers())
            && Modifier.isFinal(PaperBodies.class.getModifiers()));
        Set<String> got = new TreeSet<>();
        for (Method m : PaperBodies.class.getDeclaredMethods()) {
            if (Modifier.isPublic(m.getModifiers())) {
                String parameters = Arrays.toString(m.getParameterTypes()).replaceAll("[\\[\\] ]", "");
                got.add(m.getName() + "(" + parameters + ")");
                boolean isLong = m.getName().equals("asked") || m.getName().equals("digest");
                CHECKS.holds(m.getName() + " answers as told", m.getReturnType() == (isLong ? long.class : int.class));
                CHECKS.holds(m.getName() + " is of an object", !Modifier.isStatic(m.getModifiers()));
            }
        }
        CHECKS.holds("the face: " + got, got.equals(new TreeSet<>(Arrays.asList(FACE.split(" ")))));
        Constructor<?>[] constructors = PaperBodies.class.getDeclaredConstructors();
        CHECKS.holds("one constructor", constructors.length == 1
            && constructors[0].getParameterCount() == 0 && Modifier.isPublic(constructors[0].getModifiers()));
    }

    private static void members() {
        Set<String> publicNames = new TreeSet<>();
        for (String signature : FACE.split(" ")) {
            publicNames.add(signature.substring(0, signature.indexOf('(')));
        }
        for (Method m : PaperBodies.class.getDeclaredMethods()) {
            boolean isPublic = Modifier.isPublic(m.getModifiers());
            CHECKS.holds(m.getName() + " is public or private", isPublic || Modifier.isPrivate(m.getModifiers()));
            CHECKS.holds(m.getName() + " has a name of its own", isPublic || !publicNames.contains(m.getName()));
        }
        Class<?>[] inside = PaperBodies.class.getDeclaredClasses();
        CHECKS.holds("at most twelve classes", inside.length + 1 <= 12);
        for (Class<?> c : inside) {
            CHECKS.holds(c + " is static and not public", Modifier.isStatic(c.getModifiers())
                && !Modifier.isPublic(c.getModifiers()) && !Modifier.isProtected(c.getModifiers()));
            for (Method m : c.getDeclaredMethods()) {
                CHECKS.holds(m.getName() + " inside has a name of its own", !publicNames.contains(m.getName()));
                CHECKS.holds(m.getName() + " has at most seven parameters", m.getParameterCount() <= 7);
            }
            fewFields(c);
        }
        fewFields(PaperBodies.class);
    }

    private static void fewFields(Class<?> c) {
        int own = 0;
        for (Field f : c.getDeclaredFields()) {
            if (Modifier.isStatic(f.getModifiers())) {
                CHECKS.holds(f + " is final", Modifier.isFinal(f.getModifiers()));
            } else {
                own++;
            }
        }
        CHECKS.holds(c + " has some twenty fields", own <= 20);
    }

    private static void constants() {
        CHECKS.due("BAD", PaperBodies.BAD, -1);
        CHECKS.due("FULL", PaperBodies.FULL, -2);
        CHECKS.due("FINDING", PaperBodies.FINDING, -3);
        CHECKS.due("STATE", PaperBodies.STATE, -4);
        CHECKS.due("SPENT", PaperBodies.SPENT, -6);
        CHECKS.due("NONE", PaperBodies.NONE, -9);
        CHECKS.due("public fields", PaperBodies.class.getFields().length, 6);
        for (Field f : PaperBodies.class.getDeclaredFields()) {
            int m = f.getModifiers();
            CHECKS.holds(f + " is public or private", Modifier.isPublic(m) || Modifier.isPrivate(m));
        }
    }

    private static void source(String text) {
        String code = text.replaceAll("(?s)/\\*.*?\\*/", "").replaceAll("//[^\n]*", "");
        for (String word : BARRED) {
            String bounded = Character.isLetter(word.charAt(0)) ? "\\b" + word + "\\b" : word;
            CHECKS.holds("no " + word, !Pattern.compile(bounded).matcher(code).find());
        }
        Matcher imports = Pattern.compile("import ([\\w.]+);").matcher(code);
        while (imports.find()) {
            CHECKS.holds("imports " + imports.group(1), imports.group(1).equals("java.util.Arrays"));
        }
        shortMethods(text);
    }

    /** A method begins and ends at the indent of its class's members. */
    private static void shortMethods(String text) {
        String[] lines = text.split("\n");
        int begun = -1;
        String end = "";
        for (int i = 0; i < lines.length; i++) {
            String line = lines[i];
            String indent = line.substring(0, line.length() - line.stripLeading().length());
            if (begun < 0 && line.endsWith(") {") && (indent.length() == 4 || indent.length() == 8)) {
                begun = i;
                end = indent + "}";
            } else if (begun >= 0 && line.equals(end)) {
                CHECKS.holds("short: " + lines[begun].strip(), i - begun + 1 <= 60);
                begun = -1;
            }
        }
    }
}
