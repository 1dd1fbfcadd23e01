import java.io.IOException;
import java.lang.reflect.Constructor;
import java.lang.reflect.Field;
import java.lang.reflect.Method;
import java.lang.reflect.Modifier;
import java.nio.file.Files;
import java.nio.file.Path;
import java.util.Map;
import java.util.Set;
import java.util.TreeMap;
import java.util.TreeSet;
import java.util.regex.Matcher;
import java.util.regex.Pattern;

/** The document's face, and rules of the language that a plain look can find broken. */
public final class FaceTest {
    private static final String[] METHODS = {"int load(int,long,long)", "int root(int,int)", "int reckon(int,int,int,int)",
        "int divide(int,int,int)", "int compare(int,int)", "long floor(int)", "int write(int,int)", "int octet(int)",
        "long partial(int,int)", "long nearest(int)", "long between(int,int)", "int term(int,int,int)", "int terms(int)",
        "boolean same(int,int)"};
    private static final String CONSTANTS = "{FULL=-3, NONE=-2, REFUSED=-1, UNSURE=-4}";
    private static final int CONSTANT = Modifier.PUBLIC | Modifier.STATIC | Modifier.FINAL;
    private static final String[] LEFT_OUT = {"\\bthrow\\b", "\\btry\\b", "\\bcatch\\b", "\\bsynchronized\\b",
        "\\bassert\\b", "->", "::", "\\bpackage\\b", "\\bBigInteger\\b", "\\bSystem\\.(?!arraycopy)", "Exact\\b",
        "\\bArrays\\.(?!fill|copyOf|copyOfRange|util)", "\\b(Integer|Long)\\.[A-Z]", "\\bMath\\.(?!abs|min|max|floorDiv|floorMod)",
        "\\bimport (?!java\\.util\\.Arrays;)", "\\bprotected\\b", "\\bvar\\b", "\\bstatic \\{"};

    private final Check check = new Check();

    public static void main(String[] args) throws IOException, IllegalAccessException {
        FaceTest test = new FaceTest();
        test.face();
        test.constants();
        test.inside();
        test.words();
        test.check.end("FaceTest");
    }

    private static boolean isPrivate(int modifiers) {
        return Modifier.isPrivate(modifiers);
    }

    private static String told(Method m) {
        StringBuilder found = new StringBuilder(m.getReturnType().getName() + " " + m.getName() + "(");
        for (Class<?> type : m.getParameterTypes()) {
            found.append(found.charAt(found.length() - 1) == '(' ? "" : ",").append(type.getName());
        }
        return found.append(")").toString();
    }

    private void face() {
        Set<String> methods = new TreeSet<>();
        for (Method m : SurdDesk.class.getDeclaredMethods()) {
            if (!isPrivate(m.getModifiers())) {
                methods.add(told(m));
                check.due(m + " is public and no more", m.getModifiers() == Modifier.PUBLIC, true);
            }
        }
        check.due("methods", methods.toString(), new TreeSet<>(Set.of(METHODS)).toString());
        Constructor<?>[] constructors = SurdDesk.class.getDeclaredConstructors();
        check.due("constructors", constructors.length, 1);
        check.due("its parameters", constructors[0].getParameterCount(), 0);
        check.due("it is public", constructors[0].getModifiers() == Modifier.PUBLIC, true);
        check.due("public final", SurdDesk.class.getModifiers() == (Modifier.PUBLIC | Modifier.FINAL), true);
        check.due("without a package", SurdDesk.class.getPackageName(), "");
    }

    private void constants() throws IllegalAccessException {
        Map<String, Integer> found = new TreeMap<>();
        for (Field f : SurdDesk.class.getDeclaredFields()) {
            if (!isPrivate(f.getModifiers())) {
                check.due(f + " is a constant", f.getModifiers() == CONSTANT && f.getType() == int.class, true);
                found.put(f.getName(), f.getInt(null));
            }
        }
        check.due("constants", found.toString(), CONSTANTS);
    }

    private void inside() {
        Set<String> face = new TreeSet<>();
        for (String method : METHODS) {
            face.add(method.substring(method.indexOf(' ') + 1, method.indexOf('(')));
        }
        for (Method m : SurdDesk.class.getDeclaredMethods()) {
            check.due(m + " bears no public name", isPrivate(m.getModifiers()) && face.contains(m.getName()), false);
        }
        for (Class<?> c : SurdDesk.class.getDeclaredClasses()) {
            check.due(c + " is not public", Modifier.isPublic(c.getModifiers()), false);
            check.due(c + " is not protected", Modifier.isProtected(c.getModifiers()), false);
            for (Method m : c.getDeclaredMethods()) {
                check.due(m + " bears no public name", face.contains(m.getName()), false);
            }
        }
    }

    private void words() throws IOException {
        String text = Files.readString(Path.of("src/main/java/SurdDesk.java"));
        text = text.replaceAll("(?s)/\\*.*?\\*/", " ").replaceAll("//[^\n]*", " ");
        for (String word : LEFT_OUT) {
            Matcher m = Pattern.compile(word).matcher(text);
            check.due("the program has " + word, m.find(), false);
        }
    }
}
