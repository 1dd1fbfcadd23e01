import java.io.IOException;
import java.lang.reflect.Field;
import java.lang.reflect.Modifier;
import java.util.ArrayList;
import java.util.List;
import java.util.Map;
import java.util.Set;
import java.util.TreeMap;

/** The language's rules that the compiled program shows: what it calls, how deep, what it makes. */
public final class RulesTest {
    private static final int MOST_LINES = 60, MOST_DEEP = 8, MOST_CLASSES = 12, MOST_FIELDS = 20, MOST_PARAMETERS = 7;
    private static final Set<String> LIBRARY = Set.of("java/lang/Object.<init>()V",
        "java/lang/System.arraycopy(Ljava/lang/Object;ILjava/lang/Object;II)V", "java/util/Arrays.fill([II)V",
        "java/lang/Math.abs(J)J", "java/lang/Math.max(JJ)J", "java/lang/Math.floorDiv(JJ)J", "java/lang/Math.floorMod(JJ)J");
    private static final Set<Class<?>> CONSTANTS = Set.of(int.class, long.class, boolean.class, char.class, String.class);

    private final Check check = new Check();
    private final List<Class<?>> classes = new ArrayList<>();
    private final Map<String, ClassFile.Body> bodies = new TreeMap<>();

    private RulesTest() throws IOException {
        classes.add(SurdDesk.class);
        classes.addAll(List.of(SurdDesk.class.getDeclaredClasses()));
        for (Class<?> c : classes) {
            ClassFile file = new ClassFile(c.getResourceAsStream(c.getName() + ".class"));
            for (ClassFile.Body body : file.bodies) {
                bodies.put(c.getName() + "." + body.name, body);
            }
            types(c, file);
        }
    }

    public static void main(String[] args) throws IOException {
        RulesTest test = new RulesTest();
        test.sizes();
        test.statics();
        test.calls();
        test.bodiesAlone();
        test.depths();
        test.check.end("RulesTest");
    }

    /** Rule 3: whole numbers, truth, rows of numbers or of own classes: the program needs no more. */
    private void types(Class<?> c, ClassFile file) {
        for (String descriptor : file.descriptors) {
            String left = descriptor.replaceAll("\\[?LSurdDesk[^;]*;", "").replaceAll("\\[?[IJBCZ]", "").replaceAll("[()V]", "");
            check.due("types of " + c + " " + descriptor, left, "");
        }
    }

    /** Rules 2 and 11. */
    private void sizes() {
        check.due("classes", classes.size() <= MOST_CLASSES, true);
        for (Class<?> c : classes) {
            check.due(c + " has nothing over it", c.getSuperclass() == Object.class && c.getInterfaces().length == 0, true);
            check.due(c + " is static", c == SurdDesk.class || Modifier.isStatic(c.getModifiers()), true);
            check.due("classes within " + c, c == SurdDesk.class || c.getDeclaredClasses().length == 0, true);
            int fields = 0;
            for (Field f : c.getDeclaredFields()) {
                fields += Modifier.isStatic(f.getModifiers()) ? 0 : 1;
            }
            check.due("fields of " + c, fields <= MOST_FIELDS, true);
        }
    }

    /** Rule 5. */
    private void statics() {
        for (Class<?> c : classes) {
            for (Field f : c.getDeclaredFields()) {
                if (Modifier.isStatic(f.getModifiers())) {
                    check.due(f + " is final", Modifier.isFinal(f.getModifiers()), true);
                    check.due(f + " is a constant", CONSTANTS.contains(f.getType()), true);
                }
            }
        }
        for (String name : bodies.keySet()) {
            check.due(name + " is no static initialiser", name.contains("<clinit>"), false);
        }
    }

    /** Rule 4: own methods, and of the library only what stands in LIBRARY, all of it allowed. */
    private void calls() {
        for (Map.Entry<String, ClassFile.Body> entry : bodies.entrySet()) {
            for (String called : entry.getValue().calls) {
                check.due(entry.getKey() + " calls " + called, bodies.containsKey(called) || LIBRARY.contains(called), true);
            }
        }
    }

    /** Rules 2, 6, 11 and 12. */
    private void bodiesAlone() {
        for (Map.Entry<String, ClassFile.Body> entry : bodies.entrySet()) {
            String name = entry.getKey();
            ClassFile.Body body = entry.getValue();
            check.due(name + " catches nothing", body.handlers, 0);
            check.due(name + " throws nothing", body.opcodes.contains(ClassFile.ATHROW), false);
            check.due(name + " locks nothing", body.opcodes.contains(ClassFile.MONITOR_ENTER), false);
            check.due(name + " has no lambda", body.opcodes.contains(ClassFile.INVOKE_DYNAMIC), false);
            check.due(name + " is short", body.lastLine - body.firstLine < MOST_LINES, true);
            check.due(name + " has few parameters", parameters(name) <= MOST_PARAMETERS, true);
            boolean makes = body.opcodes.contains(ClassFile.NEW) || body.opcodes.contains(ClassFile.NEW_ARRAY)
                || body.opcodes.contains(ClassFile.NEW_ROW_OF_OBJECTS) || body.opcodes.contains(ClassFile.NEW_TABLE);
            check.due(name + " makes an object, and is no constructor", makes && !name.contains("<init>"), false);
        }
    }

    private static int parameters(String name) {
        String list = name.substring(name.indexOf('(') + 1, name.indexOf(')'));
        return list.replaceAll("\\[*L[^;]*;", "I").replaceAll("\\[", "").length();
    }

    /** Rules 8 and 11: the program needs no recursion; a call of the library counts as a level, too. */
    private void depths() {
        int deepest = 0;
        for (String name : bodies.keySet()) {
            int depth = depth(name, 0);
            check.due(name + " goes " + depth + " deep", depth <= MOST_DEEP, true);
            deepest = Math.max(deepest, depth);
        }
        check.due("calls have been followed", deepest > 4, true);
    }

    private int depth(String name, int above) {
        if (above > MOST_DEEP || !bodies.containsKey(name)) {
            return 1;
        }
        int deepest = 0;
        for (String called : bodies.get(name).calls) {
            deepest = Math.max(deepest, depth(called, above + 1));
        }
        return deepest + 1;
    }
}
