import java.lang.reflect.InvocationTargetException;
import java.lang.reflect.Method;
import java.util.ArrayList;
import java.util.List;
import java.util.Map;
import java.util.TreeMap;

/** A TrackHouse that is called by words, as "set 0 1 2 99", and keeps the calls, so that they can be made anew. */
public final class House {
    public static final int MOST_CALLS = 512;
    private static final Map<String, Method> CALLS = new TreeMap<>();

    static {
        for (Method method : TrackHouse.class.getMethods()) {
            if (method.getDeclaringClass() == TrackHouse.class) {
                CALLS.put(method.getName(), method);
            }
        }
    }

    public final List<String> history = new ArrayList<>();
    public int today = 0;
    private final TrackHouse house = new TrackHouse();

    /** A new object with the same calls behind it. */
    public static House after(List<String> calls) {
        House house = new House();
        calls.forEach(house::answer);
        return house;
    }

    /** "= 3", "= void", "! state"; any exception but the three of the face by its whole name. */
    public String answer(String call) {
        if (history.size() == MOST_CALLS) {
            throw new IllegalStateException("a call too many: " + call);
        }
        history.add(call);
        String[] words = call.trim().split("\\s+");
        Method method = CALLS.get(words[0]);
        if (method == null || method.getParameterCount() != words.length - 1) {
            throw new IllegalStateException("no such call: " + call);
        }
        Object[] arguments = new Object[words.length - 1];
        for (int i = 0; i < arguments.length; i++) {
            arguments[i] = argument(method.getParameterTypes()[i], words[i + 1]);
        }
        try {
            Object answer = method.invoke(house, arguments);
            today = words[0].equals("pass") ? (Integer) answer : today;
            return "= " + (answer == null ? "void" : answer.equals(true) ? "1" : answer.equals(false) ? "0" : answer);
        } catch (InvocationTargetException e) {
            return "! " + shortName(e.getCause().getClass());
        } catch (IllegalAccessException e) {
            throw new IllegalStateException("no access: " + call);
        }
    }

    private static Object argument(Class<?> type, String word) {
        if (type == boolean.class) {
            return word.equals("1");
        }
        return type == char.class ? (Object) (char) Integer.parseInt(word) : (Object) Integer.parseInt(word);
    }

    private static String shortName(Class<?> type) {
        if (type == IndexOutOfBoundsException.class) {
            return "index";
        }
        if (type == IllegalArgumentException.class) {
            return "argument";
        }
        return type == IllegalStateException.class ? "state" : type.getName();
    }
}
