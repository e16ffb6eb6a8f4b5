import java.lang.reflect.Constructor;
import java.lang.reflect.Field;
import java.lang.reflect.Member;
import java.lang.reflect.Method;
import java.lang.reflect.Modifier;
import java.util.Arrays;
import java.util.Set;
import java.util.TreeSet;

/** The class has the document's face and no other member that can be seen. */
public final class FaceTest {
    private static final Set<String> FACE = new TreeSet<>(Arrays.asList(
            "int parameter(int)", "boolean invalid(int,int)", "int relation(int,int)",
            "boolean is(int,int)", "boolean not()", "boolean join(int)", "int require()",
            "int seed(int)", "int begin()", "int next()", "boolean end()", "int rows()",
            "int row(int)", "int gained(int)", "int left()", "int gain(int)", "int kind(int)",
            "int extendable(int)", "int forbidden(int)"));
    private static int wrong = 0;

    private static void due(String what, Object got, Object want) {
        if (!got.equals(want)) {
            wrong++;
            System.out.println(what + ": " + got + ", due is " + want);
        }
    }

    private static boolean isHidden(Member member) {
        return Modifier.isPrivate(member.getModifiers()) || member.isSynthetic();
    }

    private static String signature(Method method) {
        StringBuilder text = new StringBuilder();
        text.append(method.getReturnType()).append(' ').append(method.getName()).append('(');
        for (Class<?> type : method.getParameterTypes()) {
            text.append(text.charAt(text.length() - 1) == '(' ? "" : ",").append(type);
        }
        return text.append(')').toString();
    }

    private static Set<String> visibleMethods() {
        Set<String> found = new TreeSet<>();
        for (Method method : CombinationRows.class.getDeclaredMethods()) {
            if (!isHidden(method)) {
                found.add((Modifier.toString(method.getModifiers()) + " " + signature(method))
                        .replaceFirst("^public ", ""));
            }
        }
        return found;
    }

    /** LANGUAGE.md, rule 1: classes inside are static and hidden, and names of the face are its own. */
    private static void lookInside() {
        Set<String> names = new TreeSet<>();
        for (Method method : CombinationRows.class.getMethods()) {
            names.add(method.getName());
        }
        for (Class<?> inside : CombinationRows.class.getDeclaredClasses()) {
            int modifiers = inside.getModifiers();
            due(inside + " is static", Modifier.isStatic(modifiers), true);
            due(inside + " is hidden", Modifier.isPublic(modifiers) || Modifier.isProtected(modifiers), false);
            lookForNames(inside, names);
        }
        lookForNames(CombinationRows.class, names);
        due("package", CombinationRows.class.getPackageName(), "");
    }

    private static void lookForNames(Class<?> where, Set<String> names) {
        for (Method method : where.getDeclaredMethods()) {
            boolean isPrivate = Modifier.isPrivate(method.getModifiers());
            due(method + " has a name of the face", isPrivate && names.contains(method.getName()), false);
        }
    }

    public static void main(String[] args) {
        lookInside();
        due("modifiers", CombinationRows.class.getModifiers(), Modifier.PUBLIC | Modifier.FINAL);
        due("methods", visibleMethods(), FACE);
        Constructor<?>[] constructors = CombinationRows.class.getDeclaredConstructors();
        due("constructors", constructors.length, 1);
        due("constructor", constructors[0].toString(), "public CombinationRows()");
        for (Field field : CombinationRows.class.getDeclaredFields()) {
            due("field " + field.getName() + " is hidden", isHidden(field), true);
            boolean isState = Modifier.isStatic(field.getModifiers())
                    && !Modifier.isFinal(field.getModifiers());
            due("field " + field.getName() + " is static state", isState, false);
        }
        System.out.println(wrong == 0 ? "the face is the document's" : wrong + " faults in the face");
        System.exit(wrong == 0 ? 0 : 1);
    }
}
