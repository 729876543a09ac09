import java.io.IOException;
import java.lang.reflect.Constructor;
import java.lang.reflect.Field;
import java.lang.reflect.Method;
import java.lang.reflect.Modifier;
import java.nio.file.Files;
import java.nio.file.Path;
import java.util.Arrays;
import java.util.Set;
import java.util.TreeSet;
import java.util.regex.Matcher;
import java.util.regex.Pattern;

/** "The public face", as the document's code block has it, and rule 1 of LANGUAGE.md. */
public final class FaceTest {
    private static final Class<?> CLASS = MixingRelays.class;

    public static void main(String[] args) throws IOException {
        Set<String> face = faceOf(Files.readString(Path.of("../shared/DOC.md")));
        Check.due("methods told", face.size(), 31);
        methods(face);
        constructor();
        constants();
        noNameTwice(face);
        Check.finish();
    }

    /** "public int line(int from, int to);" is kept as "int line(int,int)". */
    private static Set<String> faceOf(String document) {
        Set<String> face = new TreeSet<>();
        Matcher told = Pattern.compile("public (int|long) (\\w+)\\(([^)]*)\\);").matcher(document);
        while (told.find()) {
            String types = told.group(3).replaceAll(" \\w+(,|$)", "$1").replace(" ", "");
            face.add(told.group(1) + " " + told.group(2) + "(" + types + ")");
        }
        return face;
    }

    private static void methods(Set<String> face) {
        Set<String> seen = new TreeSet<>();
        for (Method method : CLASS.getDeclaredMethods()) {
            if (!Modifier.isPrivate(method.getModifiers())) {
                Check.holds(method + " is public, not static", Modifier.isPublic(method.getModifiers())
                        && !Modifier.isStatic(method.getModifiers()));
                String types = Arrays.toString(method.getParameterTypes()).replaceAll("[\\[\\] ]", "");
                seen.add(method.getReturnType() + " " + method.getName() + "(" + types + ")");
            }
        }
        Check.holds("the methods are " + face + ", seen are " + seen, face.equals(seen));
    }

    private static void constructor() {
        Check.holds("public and final", Modifier.isPublic(CLASS.getModifiers()) && Modifier.isFinal(CLASS.getModifiers()));
        Constructor<?>[] makers = CLASS.getDeclaredConstructors();
        Check.due("constructors", makers.length, 1);
        Check.holds("its constructor", Modifier.isPublic(makers[0].getModifiers()) && makers[0].getParameterCount() == 0);
    }

    /** "public static final int NONE = -1, BAD = -2, STATE = -3, FULL = -4;" */
    private static void constants() {
        Check.due("NONE", MixingRelays.NONE, -1);
        Check.due("BAD", MixingRelays.BAD, -2);
        Check.due("STATE", MixingRelays.STATE, -3);
        Check.due("FULL", MixingRelays.FULL, -4);
        int open = 0;
        for (Field field : CLASS.getDeclaredFields()) {
            int told = field.getModifiers();
            if (!Modifier.isPrivate(told)) {
                open++;
                Check.holds(field + " is a public constant", Modifier.isPublic(told) && Modifier.isStatic(told)
                        && Modifier.isFinal(told) && field.getType() == int.class);
            }
        }
        Check.due("fields that are not private", open, 4);
    }

    /** "No private method bears the name of a public one." */
    private static void noNameTwice(Set<String> face) {
        Set<String> names = new TreeSet<>();
        for (String method : face) {
            names.add(method.substring(method.indexOf(' ') + 1, method.indexOf('(')));
        }
        for (Method method : CLASS.getDeclaredMethods()) {
            Check.holds(method + " bears a name of its own",
                    Modifier.isPublic(method.getModifiers()) || !names.contains(method.getName()));
        }
        for (Class<?> inside : CLASS.getDeclaredClasses()) {
            Check.holds(inside + " is not open to all", !Modifier.isPublic(inside.getModifiers())
                    && !Modifier.isProtected(inside.getModifiers()));
            for (Method method : inside.getDeclaredMethods()) {
                Check.holds(method + " bears a name of its own", !names.contains(method.getName()));
            }
        }
    }
}
