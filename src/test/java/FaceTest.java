import java.io.IOException;
import java.lang.reflect.Constructor;
import java.lang.reflect.Field;
import java.lang.reflect.Method;
import java.lang.reflect.Modifier;
import java.nio.file.Files;
import java.nio.file.Path;
import java.util.Arrays;
import java.util.Set;
import java.util.TreeSet;
import java.util.regex.Matcher;
import java.util.regex.Pattern;

/** The public face, and those rules of LANGUAGE.md that a test can see. */
public final class FaceTest {
    private static final String[] FACE = {
        "int relay()", "int line(int,int)", "int pieces(int)", "int piece(int,long)", "int end(int,int)",
        "int factor(int,int,int)", "int keep(int,int)", "int broken(int,int)", "int bend(int,long)",
        "int about(int,int)", "int times(int,int)", "int inverse(int)", "int flow(int)", "int cut(int,int)",
        "int rate()", "int vector(int,int)", "long carries(int)", "int rank(int)", "int fresh(int,int)",
        "int solves(int,int)", "int key(int,int,int)", "long gets(int,int)", "int lack(int,int,int)",
        "int wrong()", "int left()", "int draw(int)", "int find()", "int leave()", "int safe(int,int)",
        "int breaks(int,int,int)", "int count(int)"
    };
    private static final Class<?> CLASS = MixingRelays.class;

    public static void main(String[] args) throws IOException {
        members();
        constants();
        noNameTwice();
        source(Files.readString(Path.of("src/main/java/MixingRelays.java")));
        Check.finish();
    }

    private static void members() {
        Set<String> seen = new TreeSet<>();
        for (Method method : CLASS.getDeclaredMethods()) {
            if (!Modifier.isPrivate(method.getModifiers())) {
                Check.holds(method + " is public, not static", Modifier.isPublic(method.getModifiers())
                        && !Modifier.isStatic(method.getModifiers()));
                String types = Arrays.toString(method.getParameterTypes()).replaceAll("[\\[\\] ]", "");
                seen.add(method.getReturnType() + " " + method.getName() + "(" + types + ")");
            }
        }
        Set<String> due = new TreeSet<>(Arrays.asList(FACE));
        Check.holds("the methods are " + due + ", seen are " + seen, due.equals(seen));
        Check.holds("public and final", Modifier.isPublic(CLASS.getModifiers()) && Modifier.isFinal(CLASS.getModifiers()));
        Constructor<?>[] makers = CLASS.getDeclaredConstructors();
        Check.due("constructors", makers.length, 1);
        Check.holds("its constructor", Modifier.isPublic(makers[0].getModifiers()) && makers[0].getParameterCount() == 0);
    }

    private static void constants() {
        Check.due("NONE", MixingRelays.NONE, -1);
        Check.due("BAD", MixingRelays.BAD, -2);
        Check.due("STATE", MixingRelays.STATE, -3);
        Check.due("FULL", MixingRelays.FULL, -4);
        int open = 0;
        for (Field field : CLASS.getDeclaredFields()) {
            open += Modifier.isPrivate(field.getModifiers()) ? 0 : 1;
            Check.holds(field + " is final if static", !Modifier.isStatic(field.getModifiers())
                    || Modifier.isFinal(field.getModifiers()));
        }
        Check.due("fields that are not private", open, 4);
    }

    private static void noNameTwice() {
        Set<String> names = new TreeSet<>();
        for (String method : FACE) {
            names.add(method.substring(method.indexOf(' ') + 1, method.indexOf('(')));
        }
        for (Method method : CLASS.getDeclaredMethods()) {
            Check.holds(method + " bears a name of its own",
                    Modifier.isPublic(method.getModifiers()) || !names.contains(method.getName()));
        }
        for (Class<?> inside : CLASS.getDeclaredClasses()) {
            Check.holds(inside + " is static", Modifier.isStatic(inside.getModifiers()));
            Check.holds(inside + " has few fields", inside.getDeclaredFields().length <= 20);
            for (Method method : inside.getDeclaredMethods()) {
                Check.holds(method + " bears a name of its own", !names.contains(method.getName()));
                Check.holds(method + " takes few parameters", method.getParameterCount() <= 7);
            }
        }
        Check.holds("few classes", CLASS.getDeclaredClasses().length <= 11);
    }

    private static void source(String text) {
        String code = text.replaceAll("(?s)/\\*.*?\\*/", "").replaceAll("//[^\n]*", "");
        String noArrowCases = code.replaceAll("(case\\b[^:;{}]*?|\\bdefault)\\s*->", "");
        Matcher left = Pattern.compile("\\b(throw|throws|try|catch|synchronized|assert|package)\\b|->|::").matcher(noArrowCases);
        Check.holds("words and signs that the rules leave out", !left.find());
        Set<String> library = Set.of("java.util.Arrays", "java.util.ArrayList", "java.util.List", "java.util.Iterator");
        Matcher imported = Pattern.compile("import ([\\w.]+);").matcher(code);
        while (imported.find()) {
            Check.holds("import " + imported.group(1), library.contains(imported.group(1)));
        }
    }
}
