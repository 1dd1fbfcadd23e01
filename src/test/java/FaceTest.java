import java.io.IOException;
import java.lang.reflect.Constructor;
import java.lang.reflect.Field;
import java.lang.reflect.Method;
import java.lang.reflect.Modifier;
import java.nio.file.Files;
import java.nio.file.Path;
import java.util.Set;
import java.util.TreeSet;
import java.util.regex.Matcher;
import java.util.regex.Pattern;

/** The document's face, and rules of the language that a plain look can find broken. */
public final class FaceTest {
    private static final String[] METHODS = {"int load(int,long,long)", "int root(int,int)", "int reckon(int,int,int,int)",
        "int divide(int,int,int)", "int compare(int,int)", "long floor(int)", "int write(int,int)", "int octet(int)",
        "long partial(int,int)", "long nearest(int)", "long between(int,int)", "int term(int,int,int)", "int terms(int)",
        "boolean same(int,int)"};
    private static final String[] CONSTANTS = {"REFUSED", "NONE", "FULL", "UNSURE"};
    private static final String[] LEFT_OUT = {"\\bthrow\\b", "\\btry\\b", "\\bcatch\\b", "\\bsynchronized\\b",
        "\\bassert\\b", "->", "::", "\\bpackage\\b", "\\bBigInteger\\b", "\\bSystem\\.(?!arraycopy)", "Exact\\b",
        "\\bArrays\\.(?!fill|copyOf|copyOfRange|util)", "\\b(Integer|Long)\\.[A-Z]", "\\bMath\\.(?!abs|min|max|floorDiv|floorMod)",
        "\\bimport (?!java\\.util\\.Arrays;)", "\\bprotected\\b", "\\bvar\\b", "\\bstatic \\{"};

    private final Check check = new Check();

    public static void main(String[] args) throws IOException {
        FaceTest test = new FaceTest();
        test.face();
        test.inside();
        test.words();
        test.check.end("FaceTest");
    }

    private static boolean isPrivate(int modifiers) {
        return Modifier.isPrivate(modifiers);
    }

    private static String told(Method m) {
        StringBuilder found = new StringBuilder(m.getReturnType().getName() + " " + m.getName() + "(");
        for (Class<?> type : m.getParameterTypes()) {
            found.append(found.charAt(found.length() - 1) == '(' ? "" : ",").append(type.getName());
        }
        return found.append(")").toString();
    }

    private void face() {
        Set<String> methods = new TreeSet<>();
        for (Method m : SurdDesk.class.getDeclaredMethods()) {
            if (!isPrivate(m.getModifiers())) {
                methods.add(told(m));
                check.due(m + " is public and no more", m.getModifiers() == Modifier.PUBLIC, true);
            }
        }
        check.due("methods", methods.toString(), new TreeSet<>(Set.of(METHODS)).toString());
        Set<String> fields = new TreeSet<>();
        for (Field f : SurdDesk.class.getDeclaredFields()) {
            if (!isPrivate(f.getModifiers())) {
                fields.add(f.getName());
            }
        }
        check.due("constants", fields.toString(), new TreeSet<>(Set.of(CONSTANTS)).toString());
        Constructor<?>[] constructors = SurdDesk.class.getDeclaredConstructors();
        check.due("constructors", constructors.length, 1);
        check.due("its parameters", constructors[0].getParameterCount(), 0);
        check.due("public final", SurdDesk.class.getModifiers() == (Modifier.PUBLIC | Modifier.FINAL), true);
    }

    private void inside() {
        Set<String> face = new TreeSet<>();
        for (String method : METHODS) {
            face.add(method.substring(method.indexOf(' ') + 1, method.indexOf('(')));
        }
        Class<?>[] classes = SurdDesk.class.getDeclaredClasses();
        check.due("at most twelve classes", classes.length < 12, true);
        for (Class<?> c : classes) {
            check.due(c + " is static", Modifier.isStatic(c.getModifiers()), true);
            check.due(c + " is not public", Modifier.isPublic(c.getModifiers()), false);
            for (Method m : c.getDeclaredMethods()) {
                check.due(m + " bears no public name", face.contains(m.getName()), false);
                check.due(m + " has at most seven parameters", m.getParameterCount() <= 7, true);
            }
            for (Field f : c.getDeclaredFields()) {
                int modifiers = f.getModifiers();
                check.due(f + " is no static state", Modifier.isStatic(modifiers) && !Modifier.isFinal(modifiers), false);
            }
        }
    }

    private void words() throws IOException {
        String text = Files.readString(Path.of("src/main/java/SurdDesk.java"));
        text = text.replaceAll("(?s)/\\*.*?\\*/", " ").replaceAll("//[^\n]*", " ");
        for (String word : LEFT_OUT) {
            Matcher m = Pattern.compile(word).matcher(text);
            check.due("the program has " + word, m.find(), false);
        }
    }
}
