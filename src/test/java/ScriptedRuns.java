import java.io.IOException;
import java.nio.file.Files;
import java.nio.file.Path;
import java.util.ArrayList;
import java.util.Arrays;
import java.util.List;
import java.util.Set;
import java.util.TreeSet;

/**
 * Runs scripts of calls. A line is one of these; # begins a comment:
 *
 *   new                     a new object
 *   test words              a test of its own, upon a new object; its words are the document's, up to a " -- "
 *   call 1 2 = 3            a call and its answer (a boolean counts 1 or 0; void: no answer)
 *   call 1 2 ! state        a call and its exception: index, argument or state; and that it changes nothing
 *   call 1 2                a call that must not throw, whatever it answers
 *   do call 1; call 2       such calls
 *   times 4 call 1 2; call  such calls, so many times
 *   text s0                 wipes the text and types this one
 *   flow 0 01 12            publishes for a kind a workflow with these transitions, of which all roles are
 *   full 799                a new object with so many entries: all roles of the project 0 for the person 0,
 *                           30 items of the kind 0, the text s0, and bulk changes of the field 0 and changes of
 *                           the field 2 of the item 0
 */
public final class ScriptedRuns {
    private final String name;
    private final List<String> wrongs = new ArrayList<>();
    private House house;
    private String test = "";
    private int tests = 0;

    private ScriptedRuns(String name) {
        this.name = name;
    }

    public static void main(String[] args) {
        List<ScriptedRuns> all = Arrays.stream(args).parallel().map(ScriptedRuns::run).toList();
        int tests = 0;
        int wrong = 0;
        for (ScriptedRuns runs : all) {
            runs.wrongs.forEach(System.out::println);
            tests += runs.tests;
            wrong += runs.wrongs.size();
        }
        System.out.println(args.length + " scripts, " + tests + " tests, " + wrong + " answers are not as due");
        if (wrong > 0 || tests == 0) {
            System.exit(1);
        }
    }

    private static ScriptedRuns run(String script) {
        ScriptedRuns runs = new ScriptedRuns(script);
        try {
            int number = 0;
            for (String line : Files.readAllLines(Path.of(script))) {
                number++;
                runs.line(number, line.replaceFirst("(^|\\s)#.*", "").trim());
            }
        } catch (IOException e) {
            runs.wrong(0, "cannot be read");
        }
        return runs;
    }

    /** How many answers are not as due. */
    public static int wrongsOf(String script) {
        return run(script).wrongs.size();
    }

    private void line(int number, String line) {
        int end = line.indexOf(' ') < 0 ? line.length() : line.indexOf(' ');
        String rest = line.substring(end).trim();
        try {
            switch (line.substring(0, end)) {
                case "" -> { }
                case "new", "test" -> begin(rest);
                case "text" -> text(rest);
                case "flow" -> flow(rest.split("\\s+"));
                case "full" -> full(Integer.parseInt(rest));
                case "do" -> times(1, rest);
                case "times" -> times(Integer.parseInt(rest.split("\\s+")[0]), rest.substring(rest.indexOf(' ') + 1));
                default -> judge(number, line);
            }
        } catch (IllegalStateException e) {
            wrong(number, line + ": " + e.getMessage());
        }
    }

    private void wrong(int number, String what) {
        wrongs.add(name + ":" + number + ": " + (test.isEmpty() ? "" : "[" + test + "] ") + what);
    }

    private void begin(String words) {
        house = new House();
        test = words;
        tests++;
    }

    private void judge(int number, String line) {
        String due = null;
        String call = line;
        int at = Math.max(line.indexOf(" = "), line.indexOf(" ! "));
        if (at >= 0) {
            due = line.substring(at + 1).trim();
            call = line.substring(0, at).trim();
        }
        List<String> ahead = new ArrayList<>(house.history);
        String got = house.answer(call);
        if (due == null ? got.startsWith("!") : !due.equals(got)) {
            wrong(number, line + ": answered " + got);
        } else if (got.startsWith("!")) {
            String change = Unchanged.differs(ahead, call, house.today);
            if (change != null) {
                wrong(number, line + ": it changes something: " + change);
            }
        }
    }

    private void must(String call) {
        String got = house.answer(call);
        if (got.startsWith("!")) {
            throw new IllegalStateException(call + " answered " + got);
        }
    }

    private void times(int number, String calls) {
        for (int i = 0; i < number; i++) {
            for (String call : calls.split(";")) {
                must(call.trim());
            }
        }
    }

    private void text(String text) {
        must("wipe");
        for (char character : text.toCharArray()) {
            must("type " + (int) character);
        }
    }

    private void flow(String[] words) {
        Set<Character> states = new TreeSet<>();
        for (int i = 1; i < words.length; i++) {
            states.add(words[i].charAt(0));
            states.add(words[i].charAt(1));
        }
        states.remove('0');
        must("draft " + words[0]);
        states.forEach(state -> must("state " + state));
        for (int i = 1; i < words.length; i++) {
            must("transition " + words[i].charAt(0) + " " + words[i].charAt(1) + " 15 -1 0 0");
        }
        must("publish 0");
    }

    private void full(int entries) {
        house = new House();
        times(1, "grant 0 0 15");
        times(30, "create 0 0 0");
        text("s0");
        int made = 31;
        for (int value = 0; entries - made >= 30; value = 1 - value) {
            must("bulk 0 0 " + value);
            made += 30;
        }
        for (int value = 0; made < entries; value = 1 - value) {
            must("set 0 0 2 " + value);
            made++;
        }
        if (!house.answer("entries").equals("= " + entries)) {
            throw new IllegalStateException("there are not " + entries + " entries");
        }
    }
}
