import java.lang.reflect.InvocationTargetException;
import java.lang.reflect.Method;
import java.util.ArrayList;
import java.util.List;
import java.util.Map;
import java.util.Random;
import java.util.TreeMap;

/** Holds TrackHouse against Model in runs of calls drawn from fixed seeds; arguments: how many runs, the first seed. */
public final class RandomRuns {
    private static final int CALLS = 512;
    private static final String[] WEIGHTS = {
        "grant 8", "scheme 2", "secure 3", "reads 2", "pass 6", "index 8", "entries 2",
        "kind 4", "draft 6", "state 10", "drop 4", "transition 16", "publish 6", "forget 1",
        "create 14", "set 24", "assign 10", "move 24", "nest 14", "link 14", "level 6", "transfer 6", "sprint 8",
        "drag 10", "type 1", "text 14", "fault 2", "count 16", "found 8", "sum 10", "stateOn 4", "stateOnAnew 4",
        "field 12", "ranked 5", "burn 8", "rule 3", "narrow 6", "goal 4", "left 5", "breach 5",
        "bulk 6", "unbulk 4", "unite 1", "watch 6", "inbox 6",
    };
    private static final Map<String, Method> REAL = methods(TrackHouse.class);
    private static final Map<String, Method> TOLD = methods(Model.class);
    private static final TreeMap<String, Integer> TALLY = new TreeMap<>();

    private final Random random;
    private final TrackHouse house = new TrackHouse();
    private final Model model = new Model();
    private final List<String> history = new ArrayList<>();
    private final List<String> bag = new ArrayList<>();
    private final int people;
    private final int wild;
    private int items = 0;
    private int today = 0;
    private int ruleCount = 0;
    private int drafted = 0;
    private boolean isWrong = false;

    private RandomRuns(long seed) {
        random = new Random(seed);
        people = 2 + random.nextInt(4);
        wild = random.nextInt(12);
        for (String weight : WEIGHTS) {
            String[] parts = weight.split(" ");
            // Each run likes some calls more than others, so that the rarer ones get their turn.
            int times = Integer.parseInt(parts[1]) * (random.nextInt(4) == 0 ? 4 : 1 + random.nextInt(2));
            for (int i = 0; i < times; i++) {
                bag.add(parts[0]);
            }
        }
    }

    public static void main(String[] args) {
        int runs = args.length > 0 ? Integer.parseInt(args[0]) : 1200;
        long first = args.length > 1 ? Long.parseLong(args[1]) : 1;
        int wrong = 0;
        for (long seed = first; seed < first + runs && wrong < 3; seed++) {
            RandomRuns run = new RandomRuns(seed);
            if (!run.agrees()) {
                wrong++;
                System.out.println("seed " + seed + ":");
                int from = args.length > 2 ? 0 : Math.max(0, run.history.size() - 25);
                run.history.subList(from, run.history.size()).forEach(System.out::println);
            }
        }
        if (args.length > 2) {
            TALLY.forEach((key, number) -> System.out.println(key + ": " + number));
        }
        System.out.println(wrong == 0 ? runs + " runs agree" : "some runs do not agree");
        if (wrong > 0) {
            System.exit(1);
        }
    }

    private static Map<String, Method> methods(Class<?> type) {
        Map<String, Method> all = new TreeMap<>();
        for (Method method : type.getMethods()) {
            if (method.getDeclaringClass() == type) {
                all.put(method.getName(), method);
            }
        }
        return all;
    }

    private boolean agrees() {
        begin();
        while (history.size() < CALLS && !isWrong) {
            String call = bag.get(random.nextInt(bag.size()));
            if (call.equals("text")) {
                text(query());
            } else {
                call(call, arguments(call));
            }
        }
        return !isWrong;
    }

    private void begin() {
        for (int person = 0; person < people; person++) {
            for (int project = 0; project < 3; project++) {
                if (person == 0 || random.nextInt(4) > 0) {
                    call("grant", person, project, random.nextInt(4) > 0 ? 15 : random.nextInt(16));
                }
            }
        }
        int way = random.nextInt(6);
        if (way == 0) {
            fill();
        } else if (way < 5) {
            for (int kind = 0; kind < 3; kind++) {
                flow(kind);
            }
        }
    }

    private void flow(int kind) {
        call("draft", kind);
        int most = 1 + random.nextInt(3);
        for (int state = 1; state <= most; state++) {
            call("state", state);
        }
        for (int i = 0; i < 8; i++) {
            int from = i <= most ? i : random.nextInt(most + 1);
            int to = (from + 1 + random.nextInt(most)) % (most + 1);
            int field = random.nextInt(3) > 0 ? -1 : random.nextInt(3);
            call("transition", from, to, random.nextInt(5) > 0 ? 15 : 1 + random.nextInt(14), field, random.nextInt(4),
                    field < 0 ? random.nextInt(2) : random.nextInt(3));
        }
        call("publish", 0);
        while (ruleCount < 6 && random.nextInt(3) > 0) {
            call("rule", rule());
        }
    }

    /** A run that begins near the most entries. */
    private void fill() {
        call("grant", 0, 0, 15);
        for (int i = 0; i < 30; i++) {
            call("create", 0, 0, random.nextInt(3));
        }
        text("!k9");
        int rounds = 20 + random.nextInt(6);
        for (int i = 0; i < rounds; i++) {
            call("bulk", 0, 0, i % 7);
        }
    }

    private void text(String text) {
        call("wipe");
        for (char c : text.toCharArray()) {
            call("type", c);
        }
        call("fault");
    }

    private int upTo(int most) {
        if (random.nextInt(100) < wild) {
            if (random.nextInt(4) == 0) {
                return random.nextInt(3) == 0 ? random.nextInt() : random.nextBoolean() ? 1 << 31 : (1 << 31) - 1;
            }
            return random.nextBoolean() ? -1 - random.nextInt(2) : most + 1 + random.nextInt(2);
        }
        return random.nextInt(most + 1);
    }

    private int orNone(int most) {
        return random.nextInt(4) == 0 ? -1 : upTo(most);
    }

    private int person() {
        int way = random.nextInt(10);
        return way == 0 ? upTo(7) : way < 4 ? 0 : upTo(people - 1);
    }

    private int item() {
        return items == 0 ? upTo(1) : upTo(items - 1);
    }

    private int value() {
        return random.nextInt(6) == 0 ? -1 : random.nextInt(3) > 0 ? random.nextInt(8) : upTo(99);
    }

    private int roles() {
        return random.nextInt(2) == 0 ? 15 : upTo(15);
    }

    /** Mostly a state that the draft has. */
    private int draftState() {
        for (int i = 0; i < 20 && random.nextInt(100) >= wild; i++) {
            int state = random.nextInt(6);
            if ((drafted >> state & 1) == 1) {
                return state;
            }
        }
        return upTo(5);
    }

    private int dayOf() {
        return random.nextInt(2) == 0 ? today : upTo(today);
    }

    private Object[] arguments(String call) {
        switch (call) {
            case "grant": return list(person(), upTo(2), roles());
            case "scheme": return list(upTo(2), roles(), roles());
            case "secure": return list(random.nextInt(9) == 0 ? upTo(3) : 1 + random.nextInt(2), roles());
            case "reads": return list(upTo(3), roles());
            case "pass": return list(random.nextInt(10) == 0 ? upTo(60) : 1 + random.nextInt(5));
            case "kind": return list(upTo(2), random.nextInt(3) > 0 ? 7 : upTo(7), orNone(3), upTo(2));
            case "draft": return list(upTo(2));
            case "state": return list(upTo(5));
            case "drop": return list(draftState(), draftState());
            case "transition":
                int field = random.nextBoolean() ? -1 : upTo(2);
                return list(draftState(), draftState(), roles(), field, random.nextInt(6), upTo(field < 0 ? 1 : 2));
            case "publish": return list(person());
            case "create": return list(person(), upTo(2), upTo(2));
            case "set": return list(person(), item(), upTo(2), value());
            case "assign": return list(person(), item(), orNone(people));
            case "move": return list(person(), item(), random.nextInt(4) > 0 ? random.nextInt(3) : upTo(5));
            case "nest": return list(person(), item(), random.nextInt(5) == 0 ? -1 : item());
            case "link": return list(person(), upTo(2), item(), item(), random.nextInt(4) > 0);
            case "level": return list(person(), item(), upTo(2));
            case "transfer": return list(person(), item(), upTo(2));
            case "sprint": return list(person(), item(), orNone(3));
            case "drag":
                int near = items == 0 ? 0 : items - 1 - random.nextInt(Math.min(3, items));
                return random.nextBoolean() ? list(0, near, random.nextInt(3)) : list(person(), item(), item());
            case "type": return list((char) (random.nextInt(4) == 0 ? random.nextInt(256) : 48 + random.nextInt(10)));
            case "count": return list(person(), dayOf());
            case "found": return list(person(), dayOf(), upTo(3));
            case "sum": return list(person(), dayOf(), upTo(3));
            case "stateOn": case "stateOnAnew": return list(item(), dayOf());
            case "field": return list(person(), item(), upTo(3));
            case "ranked": return list(person(), upTo(Math.max(1, items - 1)));
            case "burn": return list(person(), upTo(3), dayOf());
            case "rule": return rule();
            case "narrow":
                return list(ruleCount == 0 ? upTo(1) : upTo(ruleCount - 1), orNone(2), orNone(2), random.nextInt(7));
            case "goal": return list(upTo(2), random.nextInt(3) == 0 ? upTo(99) : upTo(9), upTo(63), upTo(63));
            case "left": case "breach": return list(item());
            case "bulk": return list(person(), upTo(2), value());
            case "unite": return list(person(), person());
            case "watch": return list(person(), item());
            case "inbox": return list(person());
            default: return list();
        }
    }

    private Object[] rule() {
        int trigger = upTo(2);
        int action = upTo(2);
        int what = trigger == 1 ? upTo(5) : trigger == 2 ? upTo(2) : upTo(30) / 30;
        int to = action == 0 ? upTo(2) : action == 1 ? upTo(5) : upTo(7);
        return list(trigger, what, upTo(3), action, to, random.nextInt(3) > 0 ? random.nextInt(5) : upTo(99));
    }

    private static Object[] list(Object... arguments) {
        return arguments;
    }

    private String query() {
        String query = "";
        do {
            query = query(4);
        } while (query.length() > 30);
        if (random.nextInt(12) == 0) {
            int at = random.nextInt(query.length());
            String signs = "skpvafWXDBCULI!()[]&|<>=x0123459 ";
            String sign = "" + signs.charAt(random.nextInt(signs.length()));
            int way = random.nextInt(3);
            query = query.substring(0, at) + (way == 0 ? "" : sign) + query.substring(way == 1 ? at : at + 1);
        }
        return query.length() > 30 ? query.substring(0, 30) : query;
    }

    private String query(int depth) {
        switch (depth == 0 ? random.nextInt(12) : random.nextInt(20)) {
            case 0: return "s" + random.nextInt(random.nextInt(9) == 0 ? 10 : 6);
            case 1: return "k" + random.nextInt(4);
            case 2: return "p" + random.nextInt(4);
            case 3: return "v" + random.nextInt(5);
            case 4: return random.nextInt(3) == 0 ? "ax" : "a" + random.nextInt(people + 1);
            case 5: case 6: case 7:
                String field = "f" + random.nextInt(4);
                return random.nextInt(4) == 0 ? field + "x"
                        : field + "<=>".charAt(random.nextInt(3)) + (random.nextInt(3) == 0 ? random.nextInt(10) : 0)
                        + random.nextInt(8);
            case 8: return "W" + random.nextInt(random.nextInt(9) == 0 ? 10 : 6);
            case 9: return "X" + random.nextInt(random.nextInt(9) == 0 ? 10 : 6) + random.nextInt(6);
            case 10: return "D" + (random.nextInt(5) == 0 ? random.nextInt(10) : 0) + random.nextInt(10);
            case 11: return "B" + random.nextInt(people + 1);
            case 12: return "C[" + query(depth - 1) + "]";
            case 13: return "U[" + query(depth - 1) + "]";
            case 14: return "L" + random.nextInt(3) + "[" + query(depth - 1) + "]";
            case 15: return "I" + random.nextInt(3) + "[" + query(depth - 1) + "]";
            case 16: case 17: return "!" + query(depth - 1);
            default:
                return "(" + query(depth - 1) + (random.nextBoolean() ? "&" : "|") + query(depth - 1) + ")";
        }
    }

    private void call(String name, Object... arguments) {
        String got = answer(REAL.get(name), house, arguments);
        String due = answer(TOLD.get(name), model, arguments);
        StringBuilder line = new StringBuilder(name);
        for (Object argument : arguments) {
            line.append(' ').append(argument instanceof Character ? "" + (int) (Character) argument
                    : argument instanceof Boolean ? ((Boolean) argument ? "1" : "0") : argument);
        }
        history.add(line + " " + due + (got.equals(due) ? "" : "   <- got " + got));
        isWrong |= !got.equals(due);
        TALLY.merge(name + " " + (due.startsWith("!") ? due : "fine"), 1, Integer::sum);
        if (due.startsWith("=")) {
            items += name.equals("create") ? 1 : 0;
            ruleCount += name.equals("rule") ? 1 : 0;
            drafted = name.equals("draft") || name.equals("state") ? Integer.parseInt(due.substring(2)) : drafted;
            drafted &= name.equals("drop") ? ~(1 << (Integer) arguments[0]) : -1;
            today = name.equals("pass") ? Integer.parseInt(due.substring(2)) : today;
        }
    }

    private static String answer(Method method, Object object, Object[] arguments) {
        try {
            return "= " + method.invoke(object, arguments);
        } catch (InvocationTargetException e) {
            return "! " + e.getCause().getClass().getName();
        } catch (IllegalAccessException e) {
            return "no access";
        }
    }
}
