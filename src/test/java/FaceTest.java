import java.lang.reflect.Constructor;
import java.lang.reflect.Field;
import java.lang.reflect.Method;
import java.lang.reflect.Modifier;
import java.nio.file.Files;
import java.nio.file.Path;
import java.util.Arrays;
import java.util.Set;
import java.util.TreeSet;
import java.util.regex.Pattern;

/** The public face is the document's, and the source keeps to those rules of LANGUAGE.md that a test can see. */
public final class FaceTest {
    private static final String[] METHODS = {
        "int type(int)", "int clear()", "int house()", "int thing(int,int)", "int tray(int,int)", "int now(int)",
        "int puts(int,int)", "int takes(int)", "int pulls(int)", "int undo()", "int plan(int,int)",
        "int even(int,int)", "int odds(int,int,int)", "int sees(int,int)", "int forget()", "int weights(int)",
        "int next()", "int rate(int,int)", "int keep(int)", "int back(int)", "int count(int)", "long trace()"};
    private static final String[] CONSTANTS = {"BAD", "STATE", "FULL", "NONE", "NO"};
    private static final String[] FORBIDDEN = {
        "\\bthrow\\b", "\\btry\\b", "\\bcatch\\b", "\\bsynchronized\\b", "\\bassert\\b", "->", "::", "\\bimport\\b",
        "\\bpackage\\b", "\\bvar\\b", "Exact\\b", "\\bSystem\\.(?!arraycopy)", "\\bprotected\\b", "@"};

    public static void main(String[] args) throws Exception {
        constants();
        members();
        nested();
        source();
        Check.end();
    }

    private static void constants() {
        Check.due("BAD", RopeTrays.BAD, -1);
        Check.due("STATE", RopeTrays.STATE, -2);
        Check.due("FULL", RopeTrays.FULL, -3);
        Check.due("NONE", RopeTrays.NONE, -9);
        Check.due("NO", RopeTrays.NO, -1000000);
    }

    private static String told(Method m) {
        StringBuilder sb = new StringBuilder(m.getReturnType().getName() + " " + m.getName() + "(");
        Class<?>[] parameters = m.getParameterTypes();
        for (int i = 0; i < parameters.length; i++) {
            sb.append(i == 0 ? "" : ",").append(parameters[i].getName());
        }
        return sb.append(")").toString();
    }

    private static void members() {
        Check.holds("the class is public and final", RopeTrays.class.getModifiers() == (Modifier.PUBLIC | Modifier.FINAL));
        Set<String> methods = new TreeSet<>();
        for (Method m : RopeTrays.class.getDeclaredMethods()) {
            if (!Modifier.isPrivate(m.getModifiers())) {
                methods.add(told(m));
            }
        }
        Check.holds("methods are the face's: " + methods, methods.equals(new TreeSet<>(Arrays.asList(METHODS))));
        Set<String> fields = new TreeSet<>();
        for (Field f : RopeTrays.class.getDeclaredFields()) {
            if (!Modifier.isPrivate(f.getModifiers())) {
                fields.add(f.getName());
            }
        }
        Check.holds("constants are the face's: " + fields, fields.equals(new TreeSet<>(Arrays.asList(CONSTANTS))));
        Constructor<?>[] made = RopeTrays.class.getDeclaredConstructors();
        Check.holds("one constructor", made.length == 1 && Modifier.isPublic(made[0].getModifiers()) && made[0].getParameterCount() == 0);
    }

    private static void nested() {
        Set<String> face = new TreeSet<>();
        for (String method : METHODS) {
            face.add(method.substring(method.indexOf(' ') + 1, method.indexOf('(')));
        }
        Class<?>[] inside = RopeTrays.class.getDeclaredClasses();
        Check.holds("twelve classes at most", inside.length + 1 <= 12);
        frugal(RopeTrays.class);
        for (Class<?> c : inside) {
            Check.holds(c + " is static and private", Modifier.isStatic(c.getModifiers()) && Modifier.isPrivate(c.getModifiers()));
            frugal(c);
            for (Method m : c.getDeclaredMethods()) {
                Check.holds(m + " bears no name of the face", !face.contains(m.getName()));
            }
        }
    }

    private static void frugal(Class<?> c) {
        int own = 0;
        for (Field f : c.getDeclaredFields()) {
            if (Modifier.isStatic(f.getModifiers())) {
                Check.holds(f + " is final", Modifier.isFinal(f.getModifiers()));
            } else {
                own++;
            }
        }
        Check.holds(c + " has twenty fields at most", own <= 20);
        for (Method m : c.getDeclaredMethods()) {
            Check.holds(m + " takes seven at most", m.getParameterCount() <= 7);
        }
    }

    private static void source() throws Exception {
        String text = Files.readString(Path.of("src/main/java/RopeTrays.java"));
        String code = text.replaceAll("(?s)/\\*.*?\\*/", "").replaceAll("//[^\n]*", "");
        for (String word : FORBIDDEN) {
            Check.holds("the source is without " + word, !Pattern.compile(word).matcher(code).find());
        }
    }
}
