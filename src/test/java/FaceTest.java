import java.lang.reflect.Constructor;
import java.lang.reflect.Field;
import java.lang.reflect.Method;
import java.lang.reflect.Modifier;
import java.util.HashSet;
import java.util.Set;

/** The document's public face, with what each call may throw, and rules 1 and 5 of the language. */
public final class FaceTest {
    private static final Check check = new Check();
    private static final String[] FACE = {
        "int instantiate(int,int,int) IndexOutOfBoundsException IllegalArgumentException IllegalStateException",
        "int set(int,int) IndexOutOfBoundsException IllegalArgumentException",
        "int register(int) IndexOutOfBoundsException",
        "int fetch(int,int) IllegalArgumentException IndexOutOfBoundsException",
        "int store(int,int,int) IllegalArgumentException IndexOutOfBoundsException",
        "int type(int) IllegalArgumentException",
        "int fields(int) IllegalArgumentException",
        "void become(int,int) IllegalArgumentException",
        "int collect()", "int compact()", "boolean exists(int)", "int count(int)", "int address(int)",
        "int chunks(int)", "int free()", "int objects()"};

    public static void main(String[] args) {
        Class<?> face = CountedObjects.class;
        check.due("public and final", face.getModifiers(), Modifier.PUBLIC | Modifier.FINAL);
        methodsAreTheFace(face);
        constructorIsTheFace(face);
        fieldsAreHidden(face);
        for (Class<?> inside : face.getDeclaredClasses()) {
            check.due(inside + " is static", Modifier.isStatic(inside.getModifiers()), true);
            fieldsAreHidden(inside);
        }
        check.end();
    }

    private static void methodsAreTheFace(Class<?> face) {
        Set<String> due = new HashSet<>(Set.of(FACE));
        Set<String> names = new HashSet<>();
        for (Method method : face.getDeclaredMethods()) {
            if (!Modifier.isPrivate(method.getModifiers())) {
                check.due(method + " is in the face", due.remove(told(method)), true);
                names.add(method.getName());
            }
        }
        check.due("methods that are not there: " + due, due.size(), 0);
        for (Method method : face.getDeclaredMethods()) {
            if (Modifier.isPrivate(method.getModifiers())) {
                check.due(method + " has a name of the face", names.contains(method.getName()), false);
            }
        }
    }

    private static String told(Method method) {
        StringBuilder text = new StringBuilder();
        text.append(method.getReturnType()).append(' ').append(method.getName()).append('(');
        for (Class<?> type : method.getParameterTypes()) {
            text.append(text.charAt(text.length() - 1) == '(' ? "" : ",").append(type);
        }
        text.append(')');
        for (Class<?> type : method.getExceptionTypes()) {
            text.append(' ').append(type.getSimpleName());
        }
        return text.toString();
    }

    private static void constructorIsTheFace(Class<?> face) {
        Constructor<?>[] all = face.getDeclaredConstructors();
        check.due("constructors", all.length, 1);
        check.due("the constructor", all[0].toString(), "public CountedObjects(int,int)");
    }

    private static void fieldsAreHidden(Class<?> holder) {
        for (Field field : holder.getDeclaredFields()) {
            int modifiers = field.getModifiers();
            check.due(field + " is private", Modifier.isPrivate(modifiers), true);
            check.due(field + " is static, and not final",
                    Modifier.isStatic(modifiers) && !Modifier.isFinal(modifiers), false);
        }
    }
}
