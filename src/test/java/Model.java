import java.util.ArrayList;
import java.util.Collections;
import java.util.HashSet;
import java.util.List;
import java.util.Map;
import java.util.Set;
import java.util.TreeMap;
import java.util.TreeSet;
import java.util.function.BiPredicate;

/**
 * The document once more, in its plainest words: every world is made anew from the list of entries, a query is
 * asked item by item as its text reads, and a call works on copies that take the place of the old only at its end.
 * RandomRuns holds TrackHouse against it.
 */
public final class Model {
    private static final int NONE = -1;

    private record Entry(int day, int by, int item, String what, int a, int b, int value) { }

    private static final class Item {
        int project, kind, state, level;
        int assignee = NONE, parent = NONE, sprint = NONE;
        int[] fields = {NONE, NONE, NONE};
        Set<Integer> states = new HashSet<>();
        Set<String> paths = new HashSet<>();
        Set<Integer> days = new HashSet<>();
        int lastBy = NONE;

        String looks() {
            return project + " " + kind + " " + state + " " + level + " " + assignee + " " + parent + " " + sprint
                    + " " + fields[0] + " " + fields[1] + " " + fields[2];
        }
    }

    private static final class World {
        final TreeMap<Integer, Item> items = new TreeMap<>();
        final Set<List<Integer>> links = new HashSet<>();
        final int[][] roles = new int[8][3];

        void take(Entry e) {
            if (e.what.equals("born")) {
                Item item = new Item();
                item.project = e.a;
                item.kind = e.b;
                item.states.add(0);
                items.put(e.item, item);
            }
            if (e.item == NONE) {
                roles[e.a][e.b] = e.value;
                return;
            }
            Item item = items.get(e.item);
            item.days.add(e.day);
            item.lastBy = e.by;
            switch (e.what) {
                case "state" -> {
                    item.paths.add(item.state + ">" + e.value);
                    item.states.add(e.value);
                    item.state = e.value;
                }
                case "field" -> item.fields[e.a] = e.value;
                case "assignee" -> item.assignee = e.value;
                case "parent" -> item.parent = e.value;
                case "level" -> item.level = e.value;
                case "sprint" -> item.sprint = e.value;
                case "project" -> item.project = e.value;
                case "link" -> {
                    tie(e.a, e.item, e.b, e.value == 1);
                    if (e.a == 1) {
                        tie(e.a, e.b, e.item, e.value == 1);
                    }
                }
                default -> { }
            }
        }

        void tie(int type, int from, int to, boolean isOn) {
            if (isOn) {
                links.add(List.of(type, from, to));
            } else {
                links.remove(List.of(type, from, to));
            }
        }

        String looks() {
            StringBuilder all = new StringBuilder();
            for (Map.Entry<Integer, Item> e : items.entrySet()) {
                all.append(e.getKey()).append(':').append(e.getValue().looks()).append('\n');
            }
            List<String> sorted = new ArrayList<>();
            links.forEach(l -> sorted.add(l.toString()));
            Collections.sort(sorted);
            return all.append(sorted).append(java.util.Arrays.deepToString(roles)).toString();
        }
    }

    private record Step(int from, int to, int roles, int field, int least, int effect) { }

    private static final class Flow {
        TreeSet<Integer> states = new TreeSet<>(Set.of(0));
        List<Step> steps = new ArrayList<>();
        Map<Integer, Integer> map = new TreeMap<>();

        Flow copy() {
            Flow copy = new Flow();
            copy.states = new TreeSet<>(states);
            copy.steps = new ArrayList<>(steps);
            return copy;
        }

        int set() {
            return states.stream().mapToInt(s -> 1 << s).sum();
        }
    }

    private static final class Rule {
        int trigger, what, target, action, to, value;
        int kind = NONE, field = NONE, least = 0;
    }

    private static final class Bulk {
        int person, field, value;
        TreeMap<Integer, Integer> before = new TreeMap<>();
    }

    private List<Entry> entries = new ArrayList<>();
    private World now = new World();
    private int day = 0, indexed = 0;
    private final int[][] schemes = {{15, 15}, {15, 15}, {15, 15}};
    private final int[] levels = {15, 15, 15}, readers = {15, 15, 15, 15};
    private final int[][] kinds = {{7, NONE, 0}, {7, NONE, 0}, {7, NONE, 0}};
    private final int[][] goals = {{NONE, 0, 0}, {NONE, 0, 0}, {NONE, 0, 0}};
    private final Flow[] flows = {new Flow(), new Flow(), new Flow()};
    private Flow draft = null;
    private int drafted = NONE;
    private final List<Rule> rules = new ArrayList<>();
    private final List<Bulk> bulks = new ArrayList<>();
    private final List<Set<Integer>> watched = new ArrayList<>();
    private final int[] asked = new int[8];
    private final List<Integer> row = new ArrayList<>();
    private final TreeMap<Integer, Integer> ranks = new TreeMap<>();
    private String text = "";

    public Model() {
        for (int i = 0; i < 8; i++) {
            watched.add(new HashSet<>());
        }
    }

    // ---- helpers

    private static void index(boolean isWrong) {
        if (isWrong) {
            throw new IndexOutOfBoundsException();
        }
    }

    private static void argument(boolean isWrong) {
        if (isWrong) {
            throw new IllegalArgumentException();
        }
    }

    private static void state(boolean isWrong) {
        if (isWrong) {
            throw new IllegalStateException();
        }
    }

    private static boolean out(int x, int least, int most) {
        return x < least || x > most;
    }

    private World worldOf(BiPredicate<Integer, World> isTaken) {
        World world = new World();
        for (int i = 0; i < entries.size(); i++) {
            if (isTaken.test(i, world)) {
                world.take(entries.get(i));
            }
        }
        return world;
    }

    private World endOf(int d) {
        return worldOf((i, w) -> entries.get(i).day <= d);
    }

    private World asked(int person, int d) {
        if (d < day) {
            return endOf(d);
        }
        return worldOf((i, w) -> {
            Entry e = entries.get(i);
            return i < indexed || e.by == person
                    && (e.item == NONE || e.what.equals("born") || w.items.containsKey(e.item));
        });
    }

    private static int bits(int a, int b) {
        return a & b;
    }

    private boolean sees(World w, int person, int item) {
        Item it = w.items.get(item);
        if (it == null) {
            return false;
        }
        int roles = w.roles[person][it.project];
        return bits(roles, schemes[it.project][0]) > 0 && (it.level == 0 || bits(roles, levels[it.level]) > 0);
    }

    private boolean edits(World w, int person, int item) {
        return sees(w, person, item) && mayEditIn(w, person, w.items.get(item).project);
    }

    private boolean mayEditIn(World w, int person, int project) {
        return bits(w.roles[person][project], schemes[project][1]) > 0;
    }

    private boolean reads(World w, int person, int item, int field) {
        return sees(w, person, item) && bits(w.roles[person][w.items.get(item).project], readers[field]) > 0;
    }

    private boolean has(int kind, int field) {
        return (kinds[kind][0] >> field & 1) == 1;
    }

    private int plain(World w, int item, int field) {
        Item it = w.items.get(item);
        return has(it.kind, field) ? it.fields[field] : NONE;
    }

    private int value(World w, int person, int item, int field) {
        if (!reads(w, person, item, field)) {
            return NONE;
        }
        if (field < 3) {
            return plain(w, item, field);
        }
        int[] kind = kinds[w.items.get(item).kind];
        List<Integer> values = new ArrayList<>();
        for (int child : w.items.keySet()) {
            if (w.items.get(child).parent == item && reads(w, person, child, kind[2])
                    && plain(w, child, kind[2]) != NONE) {
                values.add(plain(w, child, kind[2]));
            }
        }
        int sum = values.stream().mapToInt(v -> v).sum();
        return switch (kind[1]) {
            case 0 -> values.size();
            case 1 -> sum;
            case 2 -> values.isEmpty() ? NONE : Collections.min(values);
            case 3 -> values.isEmpty() ? NONE : Collections.max(values);
            default -> NONE;
        };
    }

    /** A call in the making: the entries so far, and the world that they make. */
    private final class Making {
        final List<Entry> all = new ArrayList<>(entries);
        final World world = worldOf((i, w) -> true);
        final int person;
        final int own = entries.size();

        Making(int person) {
            this.person = person;
        }

        boolean put(int item, String what, int a, int b, int value) {
            if (was(item, what, a, b) == value) {
                return false;
            }
            Entry e = new Entry(day, person, item, what, a, b, value);
            all.add(e);
            world.take(e);
            return true;
        }

        int was(int item, String what, int a, int b) {
            Item it = world.items.get(item);
            return switch (what) {
                case "roles" -> world.roles[a][b];
                case "state" -> it.state;
                case "field" -> it.fields[a];
                case "assignee" -> it.assignee;
                case "parent" -> it.parent;
                case "level" -> it.level;
                case "sprint" -> it.sprint;
                case "project" -> it.project;
                case "link" -> world.links.contains(List.of(a, item, b)) ? 1 : 0;
                default -> Integer.MIN_VALUE;
            };
        }

        void end() {
            state(all.size() > 800);
            entries = all;
            now = world;
        }

        void endWithRules(Flow[] then) {
            Making other = new Making(person);
            for (int i = own; i < all.size(); i++) {
                other.all.add(all.get(i));
                other.world.take(all.get(i));
            }
            state(!go(then, 1) || !other.go(then, -1) || !world.looks().equals(other.world.looks()));
            end();
        }

        boolean go(Flow[] then, int way) {
            int actions = 0;
            for (int at = own; at < all.size(); at++) {
                Entry e = all.get(at);
                for (int n = 0; n < rules.size(); n++) {
                    Rule r = rules.get(way > 0 ? n : rules.size() - 1 - n);
                    if (!wakes(r, e)) {
                        continue;
                    }
                    for (int target : targets(r, e.item)) {
                        if (acts(r, target, then)) {
                            actions++;
                            if (actions > 20) {
                                return false;
                            }
                        }
                    }
                }
            }
            return true;
        }

        boolean wakes(Rule r, Entry e) {
            boolean isTriggered = switch (r.trigger) {
                case 0 -> e.what.equals("born");
                case 1 -> e.what.equals("state") && e.value == r.what;
                default -> e.what.equals("field") && e.a == r.what;
            };
            return isTriggered && (r.kind == NONE || r.kind == world.items.get(e.item).kind)
                    && (r.field == NONE || meets(world, e.item, r.field, r.least));
        }

        Set<Integer> targets(Rule r, int item) {
            TreeSet<Integer> targets = new TreeSet<>();
            for (int t : world.items.keySet()) {
                boolean isOne = switch (r.target) {
                    case 0 -> t == item;
                    case 1 -> world.items.get(item).parent == t;
                    case 2 -> world.items.get(t).parent == item;
                    default -> world.links.contains(List.of(0, item, t));
                };
                if (isOne) {
                    targets.add(t);
                }
            }
            return targets;
        }

        boolean acts(Rule r, int target, Flow[] then) {
            int kind = world.items.get(target).kind;
            return switch (r.action) {
                case 0 -> has(kind, r.to) && put(target, "field", r.to, 0, r.value);
                case 1 -> then[kind].states.contains(r.to) && put(target, "state", 0, 0, r.to);
                default -> put(target, "assignee", 0, 0, r.to);
            };
        }
    }

    private boolean meets(World w, int item, int field, int least) {
        return plain(w, item, field) != NONE && plain(w, item, field) >= least;
    }

    private void unseen(int person, int item) {
        index(out(person, 0, 7));
        index(!sees(now, person, item));
    }

    // ---- people, schemes, days

    public int grant(int person, int project, int roles) {
        index(out(person, 0, 7) || out(project, 0, 2));
        argument(out(roles, 0, 15));
        int before = now.roles[person][project];
        Making making = new Making(person);
        making.put(NONE, "roles", person, project, roles);
        making.end();
        return before;
    }

    public int scheme(int project, int see, int edit) {
        index(out(project, 0, 2));
        argument(out(see, 0, 15) || out(edit, 0, 15));
        int before = 16 * schemes[project][0] + schemes[project][1];
        schemes[project] = new int[] {see, edit};
        return before;
    }

    public int secure(int level, int roles) {
        argument(out(level, 1, 2) || out(roles, 0, 15));
        int before = levels[level];
        levels[level] = roles;
        return before;
    }

    public int reads(int field, int roles) {
        argument(out(field, 0, 3) || out(roles, 0, 15));
        int before = readers[field];
        readers[field] = roles;
        return before;
    }

    public int pass(int days) {
        argument(out(days, 1, 60));
        state(day + days > 400);
        return day += days;
    }

    public int index() {
        return indexed = entries.size();
    }

    public int entries() {
        return entries.size();
    }

    // ---- kinds and workflows

    public void kind(int kind, int fields, int how, int over) {
        index(out(kind, 0, 2));
        argument(out(fields, 0, 7) || out(how, -1, 3) || out(over, 0, 2));
        kinds[kind] = new int[] {fields, how, over};
    }

    public int draft(int kind) {
        index(out(kind, 0, 2));
        state(draft != null);
        draft = flows[kind].copy();
        drafted = kind;
        return draft.set();
    }

    public int state(int state) {
        argument(out(state, 1, 5));
        state(draft == null || draft.states.contains(state));
        draft.states.add(state);
        draft.map.remove(state);
        return draft.set();
    }

    public int drop(int state, int to) {
        argument(out(state, 1, 5) || out(to, 0, 5) || state == to);
        state(draft == null || !draft.states.contains(state) || !draft.states.contains(to));
        draft.states.remove(state);
        draft.map.put(state, to);
        int before = draft.steps.size();
        draft.steps.removeIf(s -> s.from == state || s.to == state);
        return before - draft.steps.size();
    }

    public int transition(int from, int to, int roles, int field, int least, int effect) {
        argument(out(from, 0, 5) || out(to, 0, 5) || out(roles, 1, 15) || out(field, -1, 2) || out(least, 0, 99)
                || out(effect, 0, 2) || from == to || effect == 2 && field == NONE);
        state(draft == null || !draft.states.contains(from) || !draft.states.contains(to) || draft.steps.size() == 8);
        draft.steps.add(new Step(from, to, roles, field, least, effect));
        return draft.steps.size() - 1;
    }

    public int publish(int person) {
        index(out(person, 0, 7));
        state(draft == null);
        Making making = new Making(person);
        int moved = 0;
        for (int item : now.items.keySet()) {
            Item it = now.items.get(item);
            if (it.kind == drafted && !draft.states.contains(it.state)) {
                int to = it.state;
                while (!draft.states.contains(to)) {
                    to = draft.map.get(to);
                }
                making.put(item, "state", 0, 0, to);
                moved++;
            }
        }
        Flow[] then = flows.clone();
        then[drafted] = draft;
        making.endWithRules(then);
        flows[drafted] = draft;
        draft = null;
        return moved;
    }

    public boolean forget() {
        boolean was = draft != null;
        draft = null;
        return was;
    }

    // ---- items

    public int create(int person, int project, int kind) {
        index(out(person, 0, 7) || out(project, 0, 2) || out(kind, 0, 2));
        int item = now.items.size();
        state(!mayEditIn(now, person, project) || item == 30);
        Making making = new Making(person);
        making.put(item, "born", project, kind, 0);
        making.endWithRules(flows);
        ranks.put(item, row.isEmpty() ? 1024 : ranks.get(row.get(row.size() - 1)) + 1024);
        row.add(item);
        return item;
    }

    public int set(int person, int item, int field, int value) {
        unseen(person, item);
        argument(out(field, 0, 2) || out(value, -1, 99));
        state(!edits(now, person, item) || !reads(now, person, item, field) || !has(now.items.get(item).kind, field));
        int before = value(now, person, item, field);
        Making making = new Making(person);
        making.put(item, "field", field, 0, value);
        making.endWithRules(flows);
        return before;
    }

    private int simple(int person, int item, String what, int value) {
        state(!edits(now, person, item));
        Making making = new Making(person);
        int before = making.was(item, what, 0, 0);
        making.put(item, what, 0, 0, value);
        making.endWithRules(flows);
        return before;
    }

    public int assign(int person, int item, int who) {
        unseen(person, item);
        index(out(who, -1, 7));
        return simple(person, item, "assignee", who);
    }

    public int move(int person, int item, int to) {
        unseen(person, item);
        argument(out(to, 0, 5));
        state(!edits(now, person, item));
        Item it = now.items.get(item);
        List<Step> steps = flows[it.kind].steps;
        for (int s = 0; s < steps.size(); s++) {
            Step step = steps.get(s);
            if (step.from == it.state && step.to == to && bits(step.roles, now.roles[person][it.project]) > 0
                    && (step.field == NONE || meets(now, item, step.field, step.least))) {
                Making making = new Making(person);
                making.put(item, "state", 0, 0, to);
                if (step.effect == 1) {
                    making.put(item, "assignee", 0, 0, person);
                }
                if (step.effect == 2) {
                    making.put(item, "field", step.field, 0, NONE);
                }
                making.endWithRules(flows);
                return s;
            }
        }
        throw new IllegalStateException();
    }

    public int nest(int person, int item, int parent) {
        unseen(person, item);
        index(parent != NONE && !sees(now, person, parent));
        for (int up = parent; up != NONE; up = now.items.get(up).parent) {
            state(up == item);
        }
        int before = simple(person, item, "parent", parent);
        return sees(now, person, before) ? before : NONE;
    }

    public boolean link(int person, int type, int item, int other, boolean isOn) {
        unseen(person, item);
        unseen(person, other);
        argument(out(type, 0, 2) || item == other);
        state(!edits(now, person, item));
        state(isOn && type == 0 && leads(other, item, new HashSet<>()));
        Making making = new Making(person);
        boolean was = making.was(item, "link", type, other) == 1;
        making.put(item, "link", type, other, isOn ? 1 : 0);
        making.endWithRules(flows);
        return was;
    }

    private boolean leads(int from, int to, Set<Integer> gone) {
        if (from == to) {
            return true;
        }
        boolean leads = false;
        if (gone.add(from)) {
            for (List<Integer> link : now.links) {
                leads |= link.get(0) == 0 && link.get(1) == from && leads(link.get(2), to, gone);
            }
        }
        return leads;
    }

    public boolean level(int person, int item, int level) {
        unseen(person, item);
        argument(out(level, 0, 2));
        simple(person, item, "level", level);
        return sees(now, person, item);
    }

    public int transfer(int person, int item, int project) {
        unseen(person, item);
        index(out(project, 0, 2));
        Item it = now.items.get(item);
        argument(it.project == project);
        state(!edits(now, person, item) || !mayEditIn(now, person, project));
        Making making = new Making(person);
        making.put(item, "level", 0, 0, 0);
        making.put(item, "sprint", 0, 0, NONE);
        if (it.assignee != NONE && bits(now.roles[it.assignee][project], schemes[project][0]) == 0) {
            making.put(item, "assignee", 0, 0, NONE);
        }
        making.put(item, "project", 0, 0, project);
        int made = making.all.size() - making.own;
        making.end();
        return made;
    }

    public int sprint(int person, int item, int sprint) {
        unseen(person, item);
        argument(out(sprint, -1, 3));
        return simple(person, item, "sprint", sprint);
    }

    public int drag(int person, int item, int before) {
        unseen(person, item);
        unseen(person, before);
        argument(item == before);
        state(!edits(now, person, item));
        row.remove((Integer) item);
        int at = row.indexOf(before);
        row.add(at, item);
        int low = at == 0 ? 0 : ranks.get(row.get(at - 1));
        if (ranks.get(before) - low < 2) {
            int rank = 0;
            for (int other : row) {
                if (other != item) {
                    ranks.put(other, rank += 1024);
                }
            }
            low = at == 0 ? 0 : ranks.get(row.get(at - 1));
        }
        ranks.put(item, (low + ranks.get(before)) / 2);
        return ranks.get(item);
    }

    // ---- queries

    public int type(char character) {
        argument(character < 32 || character > 126);
        state(text.length() == 30);
        text += character;
        return text.length();
    }

    public int wipe() {
        int before = text.length();
        text = "";
        return before;
    }

    /** The place behind a query from a place on; -1 - p if the fault is at p. */
    private int behind(int at) {
        switch (charAt(at)) {
            case 's': case 'k': case 'p': case 'v': case 'W': case 'B':
                return all(at + 1, "9");
            case 'a':
                return charAt(at + 1) == 'x' ? at + 2 : all(at + 1, "9");
            case 'X': case 'D':
                return all(at + 1, "99");
            case 'f':
                int field = all(at + 1, "3");
                if (field < 0) {
                    return field;
                }
                if (charAt(field) == 'x') {
                    return field + 1;
                }
                return "<=>".indexOf(charAt(field)) < 0 ? -1 - field : all(field + 1, "99");
            case 'C': case 'U':
                return around(at + 1);
            case 'L': case 'I':
                int type = all(at + 1, "2");
                return type < 0 ? type : around(type);
            case '!':
                return behind(at + 1);
            case '(':
                int left = behind(at + 1);
                if (left < 0) {
                    return left;
                }
                if (charAt(left) != '&' && charAt(left) != '|') {
                    return -1 - left;
                }
                int right = behind(left + 1);
                return right < 0 ? right : charAt(right) == ')' ? right + 1 : -1 - right;
            default:
                return -1 - at;
        }
    }

    private char charAt(int at) {
        return at < text.length() ? text.charAt(at) : 0;
    }

    /** Goes by digits that are at most the given ones. */
    private int all(int at, String digits) {
        for (int i = 0; i < digits.length(); i++) {
            if (charAt(at + i) < '0' || charAt(at + i) > digits.charAt(i)) {
                return -1 - at - i;
            }
        }
        return at + digits.length();
    }

    private int around(int at) {
        if (charAt(at) != '[') {
            return -1 - at;
        }
        int inner = behind(at + 1);
        return inner < 0 ? inner : charAt(inner) == ']' ? inner + 1 : -1 - inner;
    }

    public int fault() {
        int end = behind(0);
        return end < 0 ? -1 - end : end < text.length() ? end : NONE;
    }

    private int digit(int at) {
        return text.charAt(at) - '0';
    }

    private boolean holds(World w, int person, int d, int item, int at) {
        Item it = w.items.get(item);
        switch (text.charAt(at)) {
            case 's': return it.state == digit(at + 1);
            case 'k': return it.kind == digit(at + 1);
            case 'p': return it.project == digit(at + 1);
            case 'v': return it.sprint == digit(at + 1);
            case 'a': return it.assignee == (charAt(at + 1) == 'x' ? NONE : digit(at + 1));
            case 'W': return it.states.contains(digit(at + 1));
            case 'X': return it.paths.contains(digit(at + 1) + ">" + digit(at + 2));
            case 'B': return it.lastBy == digit(at + 1);
            case 'D':
                int most = 10 * digit(at + 1) + digit(at + 2);
                return it.days.stream().anyMatch(x -> x >= d - most && x <= d);
            case 'f':
                int value = value(w, person, item, digit(at + 1));
                if (charAt(at + 2) == 'x') {
                    return value == NONE;
                }
                int number = 10 * digit(at + 3) + digit(at + 4);
                return value != NONE && (charAt(at + 2) == '<' ? value < number
                        : charAt(at + 2) == '>' ? value > number : value == number);
            case 'C':
                return w.items.keySet().stream().anyMatch(o -> w.items.get(o).parent == item
                        && sees(w, person, o) && holds(w, person, d, o, at + 2));
            case 'U':
                return it.parent != NONE && sees(w, person, it.parent) && holds(w, person, d, it.parent, at + 2);
            case 'L':
                return w.items.keySet().stream().anyMatch(o -> w.links.contains(List.of(digit(at + 1), item, o))
                        && sees(w, person, o) && holds(w, person, d, o, at + 3));
            case 'I':
                return w.items.keySet().stream().anyMatch(o -> w.links.contains(List.of(digit(at + 1), o, item))
                        && sees(w, person, o) && holds(w, person, d, o, at + 3));
            case '!': return !holds(w, person, d, item, at + 1);
            default:
                int middle = behind(at + 1);
                boolean left = holds(w, person, d, item, at + 1);
                boolean right = holds(w, person, d, item, middle + 1);
                return charAt(middle) == '&' ? left && right : left || right;
        }
    }

    private List<Integer> finds(World w, int person, int d) {
        List<Integer> found = new ArrayList<>();
        for (int item : w.items.keySet()) {
            if (sees(w, person, item) && holds(w, person, d, item, 0)) {
                found.add(item);
            }
        }
        return found;
    }

    public int count(int person, int d) {
        index(out(person, 0, 7) || out(d, 0, day));
        state(fault() != NONE);
        return finds(asked(person, d), person, d).size();
    }

    public int found(int person, int d, int place) {
        index(out(person, 0, 7) || out(d, 0, day));
        state(fault() != NONE);
        List<Integer> found = finds(asked(person, d), person, d);
        index(out(place, 0, found.size() - 1));
        return found.get(place);
    }

    public int sum(int person, int d, int field) {
        index(out(person, 0, 7) || out(d, 0, day));
        argument(out(field, 0, 3));
        state(fault() != NONE);
        World w = asked(person, d);
        int sum = 0;
        for (int item : finds(w, person, d)) {
            sum += Math.max(0, value(w, person, item, field));
        }
        return sum;
    }

    public int stateOn(int item, int d) {
        index(!now.items.containsKey(item) || out(d, 0, day));
        Item it = endOf(d).items.get(item);
        return it == null ? NONE : it.state;
    }

    public int stateOnAnew(int item, int d) {
        return stateOn(item, d);
    }

    public int field(int person, int item, int field) {
        unseen(person, item);
        argument(out(field, 0, 3));
        return value(now, person, item, field);
    }

    public int ranked(int person, int place) {
        index(out(person, 0, 7));
        List<Integer> seen = new ArrayList<>(row);
        seen.removeIf(item -> !sees(now, person, item));
        index(out(place, 0, seen.size() - 1));
        return seen.get(place);
    }

    public int burn(int person, int sprint, int d) {
        index(out(person, 0, 7) || out(sprint, 0, 3) || out(d, 0, day));
        World w = endOf(d);
        int sum = 0;
        for (int item : w.items.keySet()) {
            Item it = w.items.get(item);
            if (it.sprint == sprint && (goals[it.kind][2] >> it.state & 1) == 0) {
                sum += Math.max(0, value(w, person, item, 0));
            }
        }
        return sum;
    }

    // ---- automations

    public int rule(int trigger, int what, int target, int action, int to, int value) {
        argument(out(trigger, 0, 2) || out(what, 0, new int[] {0, 5, 2}[trigger]) || out(target, 0, 3));
        argument(out(action, 0, 2) || out(to, 0, new int[] {2, 5, 7}[action]) || out(value, 0, 99));
        state(rules.size() == 6);
        Rule rule = new Rule();
        rule.trigger = trigger;
        rule.what = what;
        rule.target = target;
        rule.action = action;
        rule.to = to;
        rule.value = value;
        rules.add(rule);
        return rules.size() - 1;
    }

    public void narrow(int rule, int kind, int field, int least) {
        index(out(rule, 0, rules.size() - 1));
        argument(out(kind, -1, 2) || out(field, -1, 2) || out(least, 0, 99));
        rules.get(rule).kind = kind;
        rules.get(rule).field = field;
        rules.get(rule).least = least;
    }

    // ---- promises, bulk changes, people

    public int goal(int kind, int days, int run, int goal) {
        index(out(kind, 0, 2));
        argument(out(days, 0, 99) || out(run, 0, 63) || out(goal, 0, 63));
        int before = goals[kind][0];
        goals[kind] = new int[] {days, run, goal};
        return before;
    }

    public int left(int item) {
        index(!now.items.containsKey(item));
        int[] goal = goals[now.items.get(item).kind];
        state(goal[0] == NONE);
        int left = goal[0];
        for (int d = 0; d < day; d++) {
            int state = stateOn(item, d);
            if (d % 7 <= 4 && state != NONE && (goal[1] >> state & 1) == 1) {
                left--;
            }
        }
        return left;
    }

    public int breach(int item) {
        int left = left(item);
        if (left < 0 || (goals[now.items.get(item).kind][1] >> now.items.get(item).state & 1) == 0) {
            return NONE;
        }
        int d = day;
        while (true) {
            if (d % 7 <= 4) {
                left--;
            }
            if (left < 0) {
                return d;
            }
            d++;
        }
    }

    public int bulk(int person, int field, int value) {
        index(out(person, 0, 7));
        argument(out(field, 0, 2) || out(value, -1, 99));
        state(fault() != NONE);
        Making making = new Making(person);
        Bulk bulk = new Bulk();
        bulk.person = person;
        bulk.field = field;
        bulk.value = value;
        int refused = 0;
        for (int item : finds(now, person, day)) {
            Item it = now.items.get(item);
            if (!edits(now, person, item) || !has(it.kind, field) || !reads(now, person, item, field)) {
                refused++;
            } else if (making.put(item, "field", field, 0, value)) {
                bulk.before.put(item, it.fields[field]);
            }
        }
        making.endWithRules(flows);
        bulks.add(bulk);
        return 100 * bulk.before.size() + refused;
    }

    public int unbulk() {
        state(bulks.isEmpty());
        Bulk bulk = bulks.get(bulks.size() - 1);
        Making making = new Making(bulk.person);
        int changed = 0;
        for (int item : bulk.before.keySet()) {
            Item it = now.items.get(item);
            if (has(it.kind, bulk.field) && it.fields[bulk.field] == bulk.value) {
                making.put(item, "field", bulk.field, 0, bulk.before.get(item));
                changed++;
            }
        }
        making.end();
        bulks.remove(bulk);
        return changed;
    }

    public int unite(int person, int other) {
        index(out(person, 0, 7) || out(other, 0, 7));
        argument(person == other);
        Making making = new Making(other);
        int assigned = 0;
        for (int p = 0; p < 3; p++) {
            making.put(NONE, "roles", other, p, now.roles[person][p] | now.roles[other][p]);
        }
        for (int item : now.items.keySet()) {
            if (now.items.get(item).assignee == person) {
                making.put(item, "assignee", 0, 0, other);
                assigned++;
            }
        }
        for (int p = 0; p < 3; p++) {
            making.put(NONE, "roles", person, p, 0);
        }
        making.end();
        watched.get(other).addAll(watched.get(person));
        return assigned;
    }

    public boolean watch(int person, int item) {
        unseen(person, item);
        if (watched.get(person).remove(item)) {
            return false;
        }
        return watched.get(person).add(item);
    }

    public int inbox(int person) {
        index(out(person, 0, 7));
        int number = 0;
        for (Entry e : entries.subList(asked[person], entries.size())) {
            if (e.by != person && watched.get(person).contains(e.item) && sees(now, person, e.item)) {
                number++;
            }
        }
        asked[person] = entries.size();
        return number;
    }
}
