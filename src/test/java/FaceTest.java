import java.lang.reflect.Constructor;
import java.lang.reflect.Field;
import java.lang.reflect.Method;
import java.lang.reflect.Modifier;
import java.util.Set;
import java.util.TreeSet;

/**
 * The public face: the constants, and no member that the document does not name; the classes inside
 * as rule 1 of LANGUAGE.md asks.
 */
public final class FaceTest {
    private static final Set<String> METHODS = Set.of(
        "void begin()", "int step(int,int)", "int arrive(int,int)", "int error(int)",
        "boolean command(boolean)", "int isolate(int,int,boolean)", "int release(int,int,boolean)",
        "int obstruct(int,int,int)", "int contact(int,int,int,int)", "int deliver(int,int)",
        "int drop(int,int)", "int twin(int,int)", "int frame(int,int,int)", "int leaf(int,int,int)",
        "int told(int,int)", "boolean mayGo()", "int breaches()");

    public static void main(String[] args) {
        Check check = new Check();
        check.due("BAD", PlatformDoors.BAD, -1);
        check.due("NONE", PlatformDoors.NONE, -2);
        check.due("class is final", Modifier.isFinal(PlatformDoors.class.getModifiers()), true);

        Set<String> open = new TreeSet<>();
        for (Method m : PlatformDoors.class.getDeclaredMethods()) {
            if (!Modifier.isPrivate(m.getModifiers()) && !m.isSynthetic()) {
                open.add(described(m));
            }
        }
        check.due("methods " + open, open.equals(METHODS), true);
        noPrivateNameIsPublic(check, PlatformDoors.class);

        Set<String> fields = new TreeSet<>();
        for (Field f : PlatformDoors.class.getDeclaredFields()) {
            if (!Modifier.isPrivate(f.getModifiers()) && !f.isSynthetic()) {
                fields.add(f.getName());
            }
        }
        check.due("fields " + fields, fields.equals(Set.of("BAD", "NONE")), true);

        Constructor<?>[] constructors = PlatformDoors.class.getDeclaredConstructors();
        check.due("constructors", constructors.length, 1);
        check.due("constructor's parameters", constructors[0].getParameterCount(), 0);
        check.due("constructor is public", Modifier.isPublic(constructors[0].getModifiers()), true);
        for (Class<?> inside : PlatformDoors.class.getDeclaredClasses()) {
            int modifiers = inside.getModifiers();
            check.due(inside + " is static", Modifier.isStatic(modifiers), true);
            check.due(inside + " is public", Modifier.isPublic(modifiers), false);
            check.due(inside + " is protected", Modifier.isProtected(modifiers), false);
            noPrivateNameIsPublic(check, inside);
        }
        check.end();
    }

    /** Rule 1 of LANGUAGE.md. */
    private static void noPrivateNameIsPublic(Check check, Class<?> type) {
        for (Method m : type.getDeclaredMethods()) {
            if (!Modifier.isPublic(m.getModifiers())) {
                boolean isPublicName = METHODS.stream().anyMatch(x -> x.contains(" " + m.getName() + "("));
                check.due(type + "'s " + m.getName() + " bears a public one's name", isPublicName, false);
            }
        }
    }

    private static String described(Method m) {
        StringBuilder text = new StringBuilder();
        text.append(m.getReturnType().getName()).append(' ').append(m.getName()).append('(');
        String comma = "";
        for (Class<?> parameter : m.getParameterTypes()) {
            text.append(comma).append(parameter.getName());
            comma = ",";
        }
        return text.append(')').toString();
    }
}
