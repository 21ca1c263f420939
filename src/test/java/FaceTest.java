import java.lang.reflect.Constructor;
import java.lang.reflect.Field;
import java.lang.reflect.Method;
import java.lang.reflect.Modifier;
import java.util.ArrayList;
import java.util.List;
import java.util.TreeSet;

/** The class has the document's face and no other member that can be seen (LANGUAGE.md, 1, 2 and 5). */
public final class FaceTest {
    private static final String[] METHODS = {
        "int setLength(int)", "int addRow(int,int)", "int removeRow(int)", "int removeDependentRows()",
        "int row(int)", "int isCheck(int)", "int rank(int)", "int message(int)", "int checkValue(int)",
        "int codewords()", "int messages()", "int choices(int)", "int encode(int,int)", "int decode(int)",
        "int distance(int)", "int weakness()", "int leakage(int)", "int worstLeakage(int)", "int worstSet(int)",
        "int threshold()", "int leastSize(int)", "int possibleMessages(int,int)",
        "int possibleMessage(int,int,int)", "int knownCombinations(int)", "int undo()", "int errorCount(int)",
        "long digest()",
    };
    private static final String[] CONSTANTS = {
        "OUT_OF_RANGE=-2", "MISSING=-3", "FULL=-4", "AMBIGUOUS=-5", "NOTHING_SAVED=-6", "NONE=-1",
    };

    private static int wrong = 0;

    private static void dueSame(String what, List<String> got, String[] want) {
        TreeSet<String> have = new TreeSet<>(got);
        TreeSet<String> due = new TreeSet<>(List.of(want));
        if (!have.equals(due)) {
            wrong++;
            System.out.println(what + " are " + have + ", due are " + due);
        }
    }

    private static void due(String what, boolean holds) {
        if (!holds) {
            wrong++;
            System.out.println("does not hold: " + what);
        }
    }

    private static String signature(Method method) {
        StringBuilder text = new StringBuilder();
        text.append(method.getReturnType().getSimpleName()).append(' ').append(method.getName()).append('(');
        for (int i = 0; i < method.getParameterCount(); i++) {
            text.append(i == 0 ? "" : ",").append(method.getParameterTypes()[i].getSimpleName());
        }
        return text.append(')').toString();
    }

    private static void checkMethods() {
        List<String> seen = new ArrayList<>();
        TreeSet<String> seenNames = new TreeSet<>();
        for (Method method : CosetCoder.class.getDeclaredMethods()) {
            if (!Modifier.isPrivate(method.getModifiers())) {
                due(method + " is public and of the object", (method.getModifiers() & Modifier.PUBLIC) != 0
                    && !Modifier.isStatic(method.getModifiers()));
                seen.add(signature(method));
                seenNames.add(method.getName());
            }
        }
        dueSame("the methods", seen, METHODS);
        for (Method method : CosetCoder.class.getDeclaredMethods()) {
            due(method + " bears a name of its own",
                !Modifier.isPrivate(method.getModifiers()) || !seenNames.contains(method.getName()));
        }
    }

    private static void checkFields() throws IllegalAccessException {
        List<String> seen = new ArrayList<>();
        for (Field field : CosetCoder.class.getDeclaredFields()) {
            int modifiers = field.getModifiers();
            due(field + " is final if it is static", !Modifier.isStatic(modifiers) || Modifier.isFinal(modifiers));
            if (!Modifier.isPrivate(modifiers)) {
                due(field + " is a constant", Modifier.isStatic(modifiers) && Modifier.isPublic(modifiers));
                seen.add(field.getName() + "=" + field.getInt(null));
            }
        }
        dueSame("the constants", seen, CONSTANTS);
    }

    private static void checkClasses() {
        due("the class is public and final", Modifier.isPublic(CosetCoder.class.getModifiers())
            && Modifier.isFinal(CosetCoder.class.getModifiers()));
        Constructor<?>[] constructors = CosetCoder.class.getDeclaredConstructors();
        due("there is one constructor, public and without parameters", constructors.length == 1
            && Modifier.isPublic(constructors[0].getModifiers()) && constructors[0].getParameterCount() == 0);
        for (Class<?> inside : CosetCoder.class.getDeclaredClasses()) {
            int modifiers = inside.getModifiers();
            due(inside + " is static and not public", Modifier.isStatic(modifiers)
                && !Modifier.isPublic(modifiers) && !Modifier.isProtected(modifiers));
        }
    }

    public static void main(String[] args) throws IllegalAccessException {
        checkMethods();
        checkFields();
        checkClasses();
        if (wrong > 0) {
            System.exit(1);
        }
    }
}
