import java.lang.reflect.Constructor;
import java.lang.reflect.Field;
import java.lang.reflect.Method;
import java.lang.reflect.Modifier;
import java.util.ArrayList;
import java.util.List;
import java.util.Set;
import java.util.TreeSet;

/** The face is the document's, to the last exception, and nothing else can be seen from outside. */
public final class Face {
    private static final String I = "IndexOutOfBoundsException", A = "IllegalArgumentException";
    private static final String S = "IllegalStateException";
    private static final String[] CALLS = {
        "int grant(int,int,int) " + I + " " + A + " " + S,
        "int scheme(int,int,int) " + I + " " + A,
        "int secure(int,int) " + A,
        "int reads(int,int) " + A,
        "int pass(int) " + A + " " + S,
        "int index()",
        "int entries()",
        "void kind(int,int,int,int) " + I + " " + A,
        "int draft(int) " + I + " " + S,
        "int state(int) " + A + " " + S,
        "int drop(int,int) " + A + " " + S,
        "int transition(int,int,int,int,int,int) " + A + " " + S,
        "int publish(int) " + I + " " + S,
        "boolean forget()",
        "int create(int,int,int) " + I + " " + S,
        "int set(int,int,int,int) " + I + " " + A + " " + S,
        "int assign(int,int,int) " + I + " " + S,
        "int move(int,int,int) " + I + " " + A + " " + S,
        "int nest(int,int,int) " + I + " " + S,
        "boolean link(int,int,int,int,boolean) " + I + " " + A + " " + S,
        "boolean level(int,int,int) " + I + " " + A + " " + S,
        "int transfer(int,int,int) " + I + " " + A + " " + S,
        "int sprint(int,int,int) " + I + " " + A + " " + S,
        "int drag(int,int,int) " + I + " " + A + " " + S,
        "int type(char) " + A + " " + S,
        "int wipe()",
        "int fault()",
        "int count(int,int) " + I + " " + S,
        "int found(int,int,int) " + I + " " + S,
        "int sum(int,int,int) " + I + " " + A + " " + S,
        "int stateOn(int,int) " + I,
        "int stateOnAnew(int,int) " + I,
        "int field(int,int,int) " + I + " " + A,
        "int ranked(int,int) " + I,
        "int burn(int,int,int) " + I,
        "int rule(int,int,int,int,int,int) " + A + " " + S,
        "void narrow(int,int,int,int) " + I + " " + A,
        "int goal(int,int,int,int) " + I + " " + A,
        "int left(int) " + I + " " + S,
        "int breach(int) " + I + " " + S,
        "int bulk(int,int,int) " + I + " " + A + " " + S,
        "int unbulk() " + S,
        "int unite(int,int) " + I + " " + A + " " + S,
        "boolean watch(int,int) " + I,
        "int inbox(int) " + I,
    };
    private static final String[] CONSTANTS = {
        "NONE -1", "COUNT 0", "SUM 1", "LEAST 2", "GREATEST 3", "NOTHING 0", "TAKE 1", "EMPTY 2",
        "CREATED 0", "ENTERED 1", "WRITTEN 2", "ITSELF 0", "PARENT 1", "CHILDREN 2", "LINKED 3",
        "PUT 0", "COME 1", "GIVE 2",
    };

    private static int wrong = 0;

    public static void main(String[] args) throws IllegalAccessException {
        Class<?> type = TrackHouse.class;
        same("modifiers", type.getModifiers(), Modifier.PUBLIC | Modifier.FINAL);
        same("package", type.getPackageName(), "");
        same("superclass", type.getSuperclass(), Object.class);
        constructors(type);
        same("calls", calls(type), new TreeSet<>(List.of(CALLS)));
        same("constants", constants(type), new TreeSet<>(List.of(CONSTANTS)));
        for (Class<?> inner : type.getDeclaredClasses()) {
            same(inner + " is static", Modifier.isStatic(inner.getModifiers()), true);
            same(inner + " is public or protected", inner.getModifiers() & (Modifier.PUBLIC | Modifier.PROTECTED), 0);
        }
        System.out.println(wrong == 0 ? "the face is as due" : wrong + " things are not as due");
        if (wrong != 0) {
            System.exit(1);
        }
    }

    private static void constructors(Class<?> type) {
        same("constructors", type.getDeclaredConstructors().length, 1);
        for (Constructor<?> constructor : type.getDeclaredConstructors()) {
            same("constructor", Modifier.isPublic(constructor.getModifiers()), true);
            same("its arguments", constructor.getParameterCount(), 0);
        }
    }

    private static Set<String> calls(Class<?> type) {
        Set<String> calls = new TreeSet<>();
        for (Method method : type.getDeclaredMethods()) {
            if (Modifier.isPrivate(method.getModifiers())) {
                continue;
            }
            same(method + " is public, and no more", method.getModifiers(), Modifier.PUBLIC);
            List<String> types = new ArrayList<>();
            for (Class<?> parameter : method.getParameterTypes()) {
                types.add(parameter.getSimpleName());
            }
            StringBuilder call = new StringBuilder(method.getReturnType().getSimpleName()).append(' ')
                    .append(method.getName()).append('(').append(String.join(",", types)).append(')');
            for (Class<?> exception : method.getExceptionTypes()) {
                call.append(' ').append(exception.getSimpleName());
            }
            calls.add(call.toString());
        }
        return calls;
    }

    private static Set<String> constants(Class<?> type) throws IllegalAccessException {
        Set<String> constants = new TreeSet<>();
        for (Field field : type.getDeclaredFields()) {
            if (!Modifier.isPrivate(field.getModifiers())) {
                same(field + "", field.getModifiers(), Modifier.PUBLIC | Modifier.STATIC | Modifier.FINAL);
                constants.add(field.getName() + " " + field.getInt(null));
            }
        }
        return constants;
    }

    private static void same(String what, Object got, Object due) {
        if (!got.equals(due)) {
            wrong++;
            System.out.println(what + ": " + got + ", due is " + due);
        }
    }
}
