import java.io.IOException;
import java.lang.reflect.Constructor;
import java.lang.reflect.Field;
import java.lang.reflect.Member;
import java.lang.reflect.Method;
import java.lang.reflect.Modifier;
import java.nio.file.Files;
import java.nio.file.Path;
import java.util.Arrays;
import java.util.Set;
import java.util.TreeSet;
import java.util.regex.Pattern;

/** The document's public face, and those rules of LANGUAGE.md that can be seen from outside. */
public final class FaceTest {
    private static final Due DUE = new Due("FaceTest");
    private static final String SOURCE = "src/main/java/GuardHeap.java";
    private static final Set<String> METHODS = new TreeSet<>(Arrays.asList(
        "int alloc(int)", "int free(int)", "int resize(int, int)", "int load(int)",
        "int store(int, int)", "int check(int)", "int copy(int, int, int)", "int sizeOf(int)",
        "int describe(int, int) NoSuchElementException", "boolean setRoot(int, int)",
        "int leakScan()", "int leak(int, int)", "int pointers()", "int count(int)",
        "int freeMany(int)", "int freeAt(int, int)", "int waiting(int)",
        "int fault(int, int) NoSuchElementException"));
    // rules 2, 4, 6 and 13: words that the program has no use for
    private static final String[] REFUSED = {
        "->", "::", "\\btry\\b", "\\bcatch\\b", "\\bfinally\\b", "\\bsynchronized\\b", "\\bassert\\b",
        "Exact\\(", "\\bequals\\(", "\\bhashCode\\b", "\\btoString\\b", "\\bprotected\\b",
        "\\bvolatile\\b", "\\bnative\\b", "System\\.(?!arraycopy\\()", "\\bpackage\\b", "\\bvar\\b"};

    public static void main(String[] args) throws IOException {
        faceIsTheDocuments();
        nothingElseIsSeen();
        classesInside();
        source();
        DUE.end();
    }

    private static String told(Method m) {
        StringBuilder text = new StringBuilder(m.getReturnType().getSimpleName());
        text.append(' ').append(m.getName()).append('(');
        for (int i = 0; i < m.getParameterCount(); i++) {
            text.append(i == 0 ? "" : ", ").append(m.getParameterTypes()[i].getSimpleName());
        }
        text.append(')');
        for (Class<?> thrown : m.getExceptionTypes()) {
            text.append(' ').append(thrown.getSimpleName());
        }
        return text.toString();
    }

    private static void faceIsTheDocuments() {
        Class<?> face = GuardHeap.class;
        DUE.holds("public and final", Modifier.isPublic(face.getModifiers()) && Modifier.isFinal(face.getModifiers()));
        Set<String> methods = new TreeSet<>();
        for (Method m : face.getDeclaredMethods()) {
            if (Modifier.isPublic(m.getModifiers())) {
                methods.add(told(m));
                DUE.holds("not static: " + m, !Modifier.isStatic(m.getModifiers()));
            }
        }
        DUE.holds("methods " + methods, methods.equals(METHODS));
        Constructor<?>[] made = face.getDeclaredConstructors();
        DUE.is("constructors", made.length, 1);
        DUE.holds("constructor", Arrays.equals(made[0].getParameterTypes(), new Class<?>[] {int.class, int.class, int.class}));
        DUE.is("public fields", face.getFields().length, 1);
        DUE.holds("NONE", face.getFields()[0].getName().equals("NONE"));
    }

    private static boolean seen(Member member) {
        return !Modifier.isPrivate(member.getModifiers());
    }

    private static void nothingElseIsSeen() {
        Set<String> names = new TreeSet<>();
        for (Method m : GuardHeap.class.getDeclaredMethods()) {
            DUE.holds("public or private: " + m, !seen(m) || Modifier.isPublic(m.getModifiers()));
            DUE.holds("a name of its own: " + m, names.add(m.getName()));
        }
        for (Field f : GuardHeap.class.getDeclaredFields()) {
            DUE.holds("private: " + f, !seen(f) || f.getName().equals("NONE"));
            DUE.holds("static only if final: " + f, !Modifier.isStatic(f.getModifiers()) || Modifier.isFinal(f.getModifiers()));
        }
    }

    private static boolean isNameOfFace(String name) {
        return METHODS.stream().anyMatch(method -> method.contains(" " + name + "("));
    }

    private static void classesInside() {
        Class<?>[] inside = GuardHeap.class.getDeclaredClasses();
        DUE.holds("twelve classes at most", inside.length < 12);
        for (Class<?> c : inside) {
            int modifiers = c.getModifiers();
            DUE.holds("static: " + c, Modifier.isStatic(modifiers));
            DUE.holds("not seen: " + c, !Modifier.isPublic(modifiers) && !Modifier.isProtected(modifiers));
            DUE.holds("twenty fields at most: " + c, c.getDeclaredFields().length <= 20);
            for (Method m : c.getDeclaredMethods()) {
                DUE.holds("seven parameters at most: " + m, m.getParameterCount() <= 7);
                DUE.holds("no name of the face: " + m, !isNameOfFace(m.getName()));
            }
        }
    }

    private static void source() throws IOException {
        String text = Files.readString(Path.of(SOURCE));
        String code = text.replaceAll("(?s)/\\*.*?\\*/", "").replaceAll("//[^\n]*", "");
        for (String refused : REFUSED) {
            DUE.holds("no " + refused, !Pattern.compile(refused).matcher(code).find());
        }
        DUE.is("imports", code.split("\\bimport\\b", -1).length - 1, 1);
        DUE.holds("the import", code.contains("import java.util.NoSuchElementException;"));
        DUE.holds("characters up to 255", text.chars().allMatch(c -> c < 256));
    }
}
