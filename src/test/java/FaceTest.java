import java.lang.reflect.Constructor;
import java.lang.reflect.Field;
import java.lang.reflect.Member;
import java.lang.reflect.Method;
import java.lang.reflect.Modifier;
import java.util.ArrayList;
import java.util.List;
import java.util.Set;
import java.util.TreeSet;

/** The class's face is the document's and nothing else. */
public final class FaceTest {
    private static final String INDEX = " IndexOutOfBoundsException";
    private static final String BOTH = INDEX + " IllegalArgumentException";
    private static final String[] FACE = {
        "int put 3" + BOTH, "int putSign 2" + BOTH, "int putNumber 2" + INDEX, "int putRope 2" + INDEX,
        "int insert 4" + BOTH, "int insertNumber 3" + INDEX, "int insertSign 3" + BOTH, "int delete 3" + INDEX,
        "int drop 2" + INDEX, "int set 3" + BOTH, "int replace 5" + BOTH, "int cut 2" + INDEX, "int reverse 1" + INDEX,
        "int copy 2" + INDEX, "int undo 1" + INDEX, "int length 1" + INDEX, "String text 1" + INDEX,
        "int sign 2" + INDEX, "String part 3" + INDEX, "int find 4" + BOTH, "int findLast 4" + BOTH,
        "int compare 2" + INDEX, "int number 1" + INDEX, "boolean isNumber 1" + INDEX, "int history 1" + INDEX,
        "String undoes 2" + INDEX, "int mark 3" + BOTH, "int place 2" + INDEX, "String span 3" + INDEX,
        "int add 5" + BOTH, "int less 2" + BOTH, "String told 1" + INDEX, "int ofScript 2" + BOTH,
        "boolean fits 2" + INDEX, "String makes 2" + INDEX, "int run 2" + INDEX, "int compose 3" + INDEX,
        "int invert 3" + INDEX, "int mirror 3" + INDEX, "int swap 2" + INDEX, "int join 3" + BOTH,
        "int between 3" + INDEX, "int least 2" + INDEX, "int house 1 IllegalArgumentException", "int knock 0",
        "boolean isSound 0", "long digest 0"};

    public static void main(String[] args) {
        Set<String> due = new TreeSet<>(List.of(FACE));
        Set<String> found = new TreeSet<>();
        Set<String> names = new TreeSet<>();
        for (Method method : Editropes.class.getDeclaredMethods()) {
            if (!Modifier.isPrivate(method.getModifiers())) {
                found.add(told(method));
                names.add(method.getName());
            }
        }
        Checks.same("the face", found, due);
        for (String name : hiddenNames()) {
            Checks.same("a hidden method named " + name, names.contains(name), false);
        }
        Checks.same("the class is public and final", Editropes.class.getModifiers(), Modifier.PUBLIC | Modifier.FINAL);
        for (Field field : Editropes.class.getDeclaredFields()) {
            Checks.same(field.getName() + " is private", isPrivate(field), true);
        }
        Constructor<?>[] constructors = Editropes.class.getDeclaredConstructors();
        Checks.same("constructors", constructors.length, 1);
        Checks.same("the constructor is public", Modifier.isPublic(constructors[0].getModifiers()), true);
        Checks.same("the constructor's parameters", constructors[0].getParameterCount(), 0);
        Checks.end();
    }

    private static boolean isPrivate(Member member) {
        return Modifier.isPrivate(member.getModifiers());
    }

    private static String told(Method method) {
        StringBuilder told = new StringBuilder(method.getReturnType().getSimpleName());
        told.append(' ').append(method.getName()).append(' ').append(method.getParameterCount());
        for (Class<?> type : method.getParameterTypes()) {
            Checks.same("a parameter of " + method.getName(), type, int.class);
        }
        for (Class<?> exception : method.getExceptionTypes()) {
            told.append(' ').append(exception.getSimpleName());
        }
        return told.toString();
    }

    private static List<String> hiddenNames() {
        List<String> names = new ArrayList<>();
        for (Method method : Editropes.class.getDeclaredMethods()) {
            if (isPrivate(method)) {
                names.add(method.getName());
            }
        }
        for (Class<?> inside : Editropes.class.getDeclaredClasses()) {
            for (Method method : inside.getDeclaredMethods()) {
                names.add(method.getName());
            }
        }
        return names;
    }
}
