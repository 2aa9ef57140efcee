import java.io.IOException;
import java.lang.reflect.InvocationTargetException;
import java.lang.reflect.Method;
import java.nio.file.Files;
import java.nio.file.Path;
import java.util.ArrayList;
import java.util.List;

/**
 * Runs scripts of calls. A line is one of these; # begins a comment:
 *
 *   new                     a new object
 *   call 1 2 = 3            a call and its answer (a boolean counts 1 or 0; void: no answer)
 *   call 1 2 ! state        a call and its exception: index, argument or state
 *   call 1 2                a call that must not throw, whatever it answers
 *   times 4 call 1 2; call  such calls, so many times
 *   text s0                 wipes the text and types this one
 *   full 799                a new object with so many entries: all roles of the project 0 for the person 0,
 *                           30 items of the kind 0, the text s0, and bulk changes and changes of the field 2
 */
public final class ScriptedRuns {
    private static final int MOST_CALLS = 512;

    private final String name;
    private final List<String> wrongs = new ArrayList<>();
    private TrackHouse house;
    private int calls;

    private ScriptedRuns(String name) {
        this.name = name;
    }

    public static void main(String[] args) throws IOException {
        int wrong = 0;
        for (String arg : args) {
            ScriptedRuns runs = new ScriptedRuns(arg);
            int number = 0;
            for (String line : Files.readAllLines(Path.of(arg))) {
                number++;
                runs.line(number, line);
            }
            runs.wrongs.forEach(System.out::println);
            wrong += runs.wrongs.size();
        }
        if (wrong > 0 || args.length == 0) {
            System.exit(1);
        }
    }

    private void line(int number, String whole) {
        String line = whole.replaceFirst("(^|\\s)#.*", "").trim();
        if (line.isEmpty()) {
            return;
        }
        try {
            if (line.equals("new")) {
                house = new TrackHouse();
                calls = 0;
            } else if (line.startsWith("text ")) {
                text(line.substring(5));
            } else if (line.startsWith("full ")) {
                full(Integer.parseInt(line.substring(5).trim()));
            } else if (line.startsWith("times ")) {
                times(line.split("\\s+", 3));
            } else {
                judge(number, line);
            }
        } catch (IllegalStateException e) {
            wrongs.add(name + ":" + number + ": " + line + ": " + e.getMessage());
        }
    }

    private void judge(int number, String line) {
        String due = null;
        String call = line;
        int at = Math.max(line.indexOf(" = "), line.indexOf(" ! "));
        if (at >= 0) {
            due = line.substring(at + 1).trim();
            call = line.substring(0, at);
        }
        String got = answer(call);
        if (due == null ? got.startsWith("!") : !due.equals(got)) {
            wrongs.add(name + ":" + number + ": " + line + ": answered " + got);
        }
    }

    private void times(String[] parts) {
        for (int i = 0; i < Integer.parseInt(parts[1]); i++) {
            for (String call : parts[2].split(";")) {
                must(call.trim());
            }
        }
    }

    private void text(String text) {
        must("wipe");
        for (char character : text.toCharArray()) {
            must("type " + (int) character);
        }
    }

    private void full(int entries) {
        house = new TrackHouse();
        calls = 0;
        must("grant 0 0 15");
        for (int i = 0; i < 30; i++) {
            must("create 0 0 0");
        }
        text("s0");
        int made = 31;
        for (int value = 0; entries - made >= 30; value = 1 - value) {
            must("bulk 0 0 " + value);
            made += 30;
        }
        for (int value = 0; made < entries; value = 1 - value) {
            must("set 0 0 2 " + value);
            made++;
        }
        if (house.entries() != entries) {
            throw new IllegalStateException("there are " + house.entries() + " entries");
        }
    }

    private void must(String call) {
        String got = answer(call);
        if (got.startsWith("!")) {
            throw new IllegalStateException(call + " answered " + got);
        }
    }

    /** "= 3", "= void", "! state"; any other exception by its whole name. */
    private String answer(String call) {
        String[] words = call.trim().split("\\s+");
        if (house == null || ++calls > MOST_CALLS) {
            throw new IllegalStateException("no object, or a call too many");
        }
        Method method = method(words[0], words.length - 1);
        Object[] args = new Object[words.length - 1];
        for (int i = 0; i < args.length; i++) {
            args[i] = argument(method.getParameterTypes()[i], words[i + 1]);
        }
        try {
            Object answer = method.invoke(house, args);
            return "= " + (answer == null ? "void" : answer.equals(true) ? "1" : answer.equals(false) ? "0" : answer);
        } catch (InvocationTargetException e) {
            return "! " + shortName(e.getCause().getClass());
        } catch (IllegalAccessException e) {
            throw new IllegalStateException("no access to " + call);
        }
    }

    private static Method method(String name, int parameters) {
        for (Method method : TrackHouse.class.getMethods()) {
            if (method.getName().equals(name) && method.getParameterCount() == parameters
                    && method.getDeclaringClass() == TrackHouse.class) {
                return method;
            }
        }
        throw new IllegalStateException("no call " + name + " with " + parameters + " arguments");
    }

    private static Object argument(Class<?> type, String word) {
        if (type == boolean.class) {
            return word.equals("1");
        }
        if (type == char.class) {
            return (char) Integer.parseInt(word);
        }
        return Integer.parseInt(word);
    }

    private static String shortName(Class<?> type) {
        if (type == IndexOutOfBoundsException.class) {
            return "index";
        }
        if (type == IllegalArgumentException.class) {
            return "argument";
        }
        return type == IllegalStateException.class ? "state" : type.getName();
    }
}
