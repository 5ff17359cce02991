import java.lang.reflect.Constructor;
import java.lang.reflect.Field;
import java.lang.reflect.Member;
import java.lang.reflect.Method;
import java.lang.reflect.Modifier;
import java.util.ArrayList;
import java.util.List;
import java.util.Set;
import java.util.TreeSet;

/** The document's public face, and no other member that can be seen from outside. */
public final class FaceTest {
    private static final Set<String> METHODS = Set.of(
            "int pin(int)", "int join(int,int)", "int part(int)", "int net(int)",
            "int fault(int,int)", "boolean place(int,int,int,int)", "boolean lift(int)",
            "int rule(int)", "boolean bar(int,boolean)", "int track(int,int,int,int)",
            "boolean erase(int)", "int route(int)", "int rip(int)", "int auto()",
            "int copper(int)", "int check(int,int)", "int plot(int,int)", "int read(int)",
            "int replay(int)", "int undo()");
    private static final Set<String> CONSTANTS = Set.of(
            "NONE=-1", "FULL=-2", "CLASH=1", "DEAF=2", "OPEN=1", "NEAR=2");

    private static final Due due = new Due();

    public static void main(String[] args) throws IllegalAccessException {
        int modifiers = BoardDesk.class.getModifiers();
        due.yes("public final", Modifier.isPublic(modifiers) && Modifier.isFinal(modifiers));
        sameNames("methods", visibleMethods(), METHODS);
        sameNames("constants", visibleConstants(), CONSTANTS);
        Constructor<?>[] constructors = BoardDesk.class.getDeclaredConstructors();
        due.same("constructors", constructors.length, 1);
        due.yes("public constructor", Modifier.isPublic(constructors[0].getModifiers()));
        due.same("its parameters", constructors[0].getParameterCount(), 0);
        noPrivateMethodBearsAPublicName();
        due.finish();
    }

    private static boolean isSeen(Member member) {
        return !Modifier.isPrivate(member.getModifiers()) && !member.isSynthetic();
    }

    private static Set<String> visibleMethods() {
        Set<String> found = new TreeSet<>();
        for (Method method : BoardDesk.class.getDeclaredMethods()) {
            if (isSeen(method)) {
                List<String> types = new ArrayList<>();
                for (Class<?> type : method.getParameterTypes()) {
                    types.add(type.getName());
                }
                String face = method.getReturnType() + " " + method.getName();
                found.add(face + "(" + String.join(",", types) + ")");
                due.yes(face + " is public", Modifier.isPublic(method.getModifiers()));
                due.no(face + " is static", Modifier.isStatic(method.getModifiers()));
            }
        }
        return found;
    }

    private static Set<String> visibleConstants() throws IllegalAccessException {
        Set<String> found = new TreeSet<>();
        for (Field field : BoardDesk.class.getDeclaredFields()) {
            if (isSeen(field)) {
                found.add(field.getName() + "=" + field.get(null));
                due.yes(field.getName() + " is final", Modifier.isFinal(field.getModifiers()));
            }
        }
        return found;
    }

    private static void sameNames(String of, Set<String> found, Set<String> wanted) {
        due.yes(of + " are " + found, found.equals(wanted));
    }

    private static void noPrivateMethodBearsAPublicName() {
        Set<String> publicNames = new TreeSet<>();
        for (Method method : BoardDesk.class.getMethods()) {
            publicNames.add(method.getName());
        }
        List<Class<?>> classes = new ArrayList<>(List.of(BoardDesk.class.getDeclaredClasses()));
        classes.add(BoardDesk.class);
        for (Class<?> one : classes) {
            for (Method method : one.getDeclaredMethods()) {
                boolean hidden = Modifier.isPrivate(method.getModifiers());
                due.no(one + " hides " + method, hidden && publicNames.contains(method.getName()));
            }
        }
    }
}
