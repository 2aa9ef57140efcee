import java.util.Arrays;

/** A work tracker: its face and its promises are told in the document; README.md says how it is laid out. */
public final class TrackHouse {
    public static final int NONE = -1;
    public static final int COUNT = 0, SUM = 1, LEAST = 2, GREATEST = 3;
    public static final int NOTHING = 0, TAKE = 1, EMPTY = 2;
    public static final int CREATED = 0, ENTERED = 1, WRITTEN = 2;
    public static final int ITSELF = 0, PARENT = 1, CHILDREN = 2, LINKED = 3;
    public static final int PUT = 0, COME = 1, GIVE = 2;

    private static final int PEOPLE = 8, PROJECTS = 3, KINDS = 3, STATES = 6, FIELDS = 3;
    private static final int LEVELS = 3, SPRINTS = 4, TYPES = 3, ITEMS = 30, RULES = 6;
    private static final int ALL_ROLES = 15, ALL_FIELDS = 7, ALL_STATES = 63, TOP = 99;
    private static final int LAST_DAY = 400, LONGEST_PASS = 60, LETTERS = 30;
    private static final int ENTRIES = 800, ACTIONS = 20;

    // A call is judged when all its entries are there, so the log has room for those of one call more.
    private static final int ROOM = ENTRIES + 100;

    // Later calls than these are free in what they answer, so later bulk changes need not be kept.
    private static final int BULKS = 512;

    // What an entry can change: first the columns of an item's row, then what is no column.
    private static final int STATE = 0, VALUE = 1, ASSIGNEE = 4, ABOVE = 5, LEVEL = 6, SPRINT = 7;
    private static final int PROJECT = 8, KIND = 9, COLUMNS = 10, LINK = 10, BORN = 13, ROLES = 14;

    // The types of links that are not like the others.
    private static final int UNCIRCLED = 0, BOTH_WAYS = 1;

    // The workflows lie in slots, one for each kind, and the draft in the last one.
    private static final int DRAFT = 3, SLOTS = 4, STEPS = 8, PARTS = 6;
    private static final int FROM = 0, TO = 1, NEEDED = 2, TESTED = 3, AT_LEAST = 4, EFFECT = 5;

    private final Log log = new Log();
    private final World live = new World();
    private final World twin = new World();
    private final Finder finder = new Finder();
    private final Query query = finder.query;
    private final View view = finder.view;
    private final Sight sight = finder.sight;
    private final Kinds kinds = sight.kinds;
    private final Flows flows = new Flows();
    private final Rules rules = new Rules();
    private final Ranks ranks = new Ranks();
    private final Bulks bulks = new Bulks();
    private final int[] watched = new int[PEOPLE];
    private final int[] asked = new int[PEOPLE];
    private int today = 0;
    private int indexed = 0;

    public TrackHouse() {
    }

    // ---- people, schemes, days

    public int grant(int person, int project, int roles)
            throws IndexOutOfBoundsException, IllegalArgumentException, IllegalStateException {
        mustExist(isPerson(person) && isProject(project));
        mustFit(isRoles(roles));
        int before = live.rolesOf(person, project);
        int mark = log.size;
        change(person, NONE, ROLES, person * PROJECTS + project, roles);
        mustBeAllowed(isWithinLimit(mark));
        return before;
    }

    public int scheme(int project, int see, int edit) throws IndexOutOfBoundsException, IllegalArgumentException {
        mustExist(isProject(project));
        mustFit(isRoles(see) && isRoles(edit));
        int before = at(sight.seers, project) * (ALL_ROLES + 1) + at(sight.editors, project);
        put(sight.seers, project, see);
        put(sight.editors, project, edit);
        return before;
    }

    public int secure(int level, int roles) throws IllegalArgumentException {
        mustFit(level >= 1 && level < LEVELS && isRoles(roles));
        int before = at(sight.cleared, level);
        put(sight.cleared, level, roles);
        return before;
    }

    public int reads(int field, int roles) throws IllegalArgumentException {
        mustFit(isAnyField(field) && isRoles(roles));
        int before = at(sight.readers, field);
        put(sight.readers, field, roles);
        return before;
    }

    public int pass(int days) throws IllegalArgumentException, IllegalStateException {
        mustFit(days >= 1 && days <= LONGEST_PASS);
        mustBeAllowed(today + days <= LAST_DAY);
        today += days;
        return today;
    }

    public int index() {
        indexed = log.size;
        return indexed;
    }

    public int entries() {
        return log.size;
    }

    // ---- kinds and workflows

    public void kind(int kind, int fields, int how, int over)
            throws IndexOutOfBoundsException, IllegalArgumentException {
        mustExist(isKind(kind));
        mustFit(fields >= 0 && fields <= ALL_FIELDS && how >= NONE && how <= GREATEST && isField(over));
        put(kinds.fields, kind, fields);
        put(kinds.ways, kind, how);
        put(kinds.overs, kind, over);
    }

    public int draft(int kind) throws IndexOutOfBoundsException, IllegalStateException {
        mustExist(isKind(kind));
        mustBeAllowed(flows.drafted == NONE);
        flows.begin(kind);
        return at(flows.states, DRAFT);
    }

    public int state(int state) throws IllegalArgumentException, IllegalStateException {
        mustFit(state >= 1 && state < STATES);
        mustBeAllowed(flows.drafted != NONE && !flows.has(DRAFT, state));
        flows.add(state);
        return at(flows.states, DRAFT);
    }

    public int drop(int state, int to) throws IllegalArgumentException, IllegalStateException {
        mustFit(state >= 1 && state < STATES && isState(to) && state != to);
        mustBeAllowed(flows.drafted != NONE && flows.has(DRAFT, state) && flows.has(DRAFT, to));
        return flows.remove(state, to);
    }

    public int transition(int from, int to, int roles, int field, int least, int effect)
            throws IllegalArgumentException, IllegalStateException {
        mustFit(isState(from) && isState(to) && roles >= 1 && isRoles(roles));
        mustFit((field == NONE || isField(field)) && isNumber(least) && effect >= NOTHING && effect <= EMPTY);
        mustFit(from != to && (effect != EMPTY || field != NONE));
        mustBeAllowed(flows.drafted != NONE && flows.has(DRAFT, from) && flows.has(DRAFT, to));
        int step = at(flows.counts, DRAFT);
        mustBeAllowed(step < STEPS);
        put(flows.counts, DRAFT, step + 1);
        flows.setEnds(step, from, to);
        flows.setTerms(step, roles, field, least, effect);
        return step;
    }

    public int publish(int person) throws IndexOutOfBoundsException, IllegalStateException {
        mustExist(isPerson(person));
        mustBeAllowed(flows.drafted != NONE);
        int mark = log.size;
        for (int item = 0; item < ITEMS; item++) {
            int state = live.cell(item, STATE);
            if (live.has(item) && live.cell(item, KIND) == flows.drafted && !flows.has(DRAFT, state)) {
                change(person, item, STATE, 0, flows.mappedFrom(state));
            }
        }
        int moved = log.size - mark;
        // The rules that wake upon it already meet the new workflow.
        flows.exchange(flows.drafted);
        boolean isDone = isSettled(mark, person);
        if (!isDone) {
            flows.exchange(flows.drafted);
        }
        mustBeAllowed(isDone);
        flows.drafted = NONE;
        return moved;
    }

    public boolean forget() {
        boolean wasThere = flows.drafted != NONE;
        flows.drafted = NONE;
        return wasThere;
    }

    // ---- items: each call is by a person

    public int create(int person, int project, int kind) throws IndexOutOfBoundsException, IllegalStateException {
        mustExist(isPerson(person) && isProject(project) && isKind(kind));
        int item = live.size();
        mustBeAllowed(canEditIn(person, project) && item < ITEMS);
        int mark = log.size;
        log.add(today, person, item, BORN, kind, NONE, project);
        live.redo(log, mark);
        mustBeAllowed(isSettled(mark, person));
        ranks.append(item);
        return item;
    }

    public int set(int person, int item, int field, int value)
            throws IndexOutOfBoundsException, IllegalArgumentException, IllegalStateException {
        mustExist(isPerson(person) && isSeen(person, item));
        mustFit(isField(field) && isValue(value));
        mustBeAllowed(canWrite(item, field));
        int before = live.cell(item, VALUE + field);
        int mark = log.size;
        change(person, item, VALUE + field, 0, value);
        mustBeAllowed(isSettled(mark, person));
        return before;
    }

    public int assign(int person, int item, int who) throws IndexOutOfBoundsException, IllegalStateException {
        mustExist(isPerson(person) && isSeen(person, item) && (who == NONE || isPerson(who)));
        return setCell(person, item, ASSIGNEE, who);
    }

    public int move(int person, int item, int to)
            throws IndexOutOfBoundsException, IllegalArgumentException, IllegalStateException {
        mustExist(isPerson(person) && isSeen(person, item));
        mustFit(isState(to));
        int step = sight.canEdit(item) ? stepTo(person, item, to) : NONE;
        mustBeAllowed(step != NONE);
        int kind = live.cell(item, KIND);
        int mark = log.size;
        change(person, item, STATE, 0, to);
        int effect = flows.part(kind, step, EFFECT);
        if (effect == TAKE) {
            change(person, item, ASSIGNEE, 0, person);
        } else if (effect == EMPTY) {
            change(person, item, VALUE + flows.part(kind, step, TESTED), 0, NONE);
        }
        mustBeAllowed(isSettled(mark, person));
        return step;
    }

    public int nest(int person, int item, int parent) throws IndexOutOfBoundsException, IllegalStateException {
        mustExist(isPerson(person) && isSeen(person, item) && (parent == NONE || sight.sees(parent)));
        mustBeAllowed(sight.canEdit(item) && !isAtOrAbove(item, parent));
        int before = setCell(person, item, ABOVE, parent);
        return sight.sees(before) ? before : NONE;
    }

    public boolean link(int person, int type, int item, int other, boolean isOn)
            throws IndexOutOfBoundsException, IllegalArgumentException, IllegalStateException {
        mustExist(isPerson(person) && isSeen(person, item) && sight.sees(other));
        mustFit(type >= 0 && type < TYPES && item != other);
        mustBeAllowed(sight.canEdit(item) && !(isOn && type == UNCIRCLED && isReached(other, item)));
        boolean wasOn = live.current(item, LINK + type, other) == 1;
        int mark = log.size;
        change(person, item, LINK + type, other, isOn ? 1 : 0);
        mustBeAllowed(isWithinLimit(mark));
        return wasOn;
    }

    public boolean level(int person, int item, int level)
            throws IndexOutOfBoundsException, IllegalArgumentException, IllegalStateException {
        mustExist(isPerson(person) && isSeen(person, item));
        mustFit(level >= 0 && level < LEVELS);
        setCell(person, item, LEVEL, level);
        return isSeen(person, item);
    }

    public int transfer(int person, int item, int project)
            throws IndexOutOfBoundsException, IllegalArgumentException, IllegalStateException {
        mustExist(isPerson(person) && isSeen(person, item) && isProject(project));
        mustFit(live.cell(item, PROJECT) != project);
        mustBeAllowed(sight.canEdit(item) && canEditIn(person, project));
        int who = live.cell(item, ASSIGNEE);
        int mark = log.size;
        change(person, item, LEVEL, 0, 0);
        change(person, item, SPRINT, 0, NONE);
        if (isPerson(who) && (live.rolesOf(who, project) & at(sight.seers, project)) == 0) {
            change(person, item, ASSIGNEE, 0, NONE);
        }
        change(person, item, PROJECT, 0, project);
        int made = log.size - mark;
        mustBeAllowed(isWithinLimit(mark));
        return made;
    }

    public int sprint(int person, int item, int sprint)
            throws IndexOutOfBoundsException, IllegalArgumentException, IllegalStateException {
        mustExist(isPerson(person) && isSeen(person, item));
        mustFit(sprint == NONE || isSprint(sprint));
        return setCell(person, item, SPRINT, sprint);
    }

    public int drag(int person, int item, int before)
            throws IndexOutOfBoundsException, IllegalArgumentException, IllegalStateException {
        mustExist(isPerson(person) && isSeen(person, item) && sight.sees(before));
        mustFit(item != before);
        mustBeAllowed(sight.canEdit(item));
        ranks.bringAhead(item, before);
        return at(ranks.ranks, item);
    }

    // ---- queries

    public int type(char character) throws IllegalArgumentException, IllegalStateException {
        mustFit(character >= 32 && character <= 126);
        mustBeAllowed(query.length < LETTERS);
        return query.append(character);
    }

    public int wipe() {
        int before = query.length;
        query.length = 0;
        return before;
    }

    public int fault() {
        return query.compile();
    }

    public int count(int person, int day) throws IndexOutOfBoundsException, IllegalStateException {
        mustExist(isPerson(person) && isDay(day));
        mustBeAllowed(query.compile() == NONE);
        lookOn(person, day);
        return Integer.bitCount(finder.hits());
    }

    public int found(int person, int day, int place) throws IndexOutOfBoundsException, IllegalStateException {
        mustExist(isPerson(person) && isDay(day));
        mustBeAllowed(query.compile() == NONE);
        lookOn(person, day);
        int hits = finder.hits();
        mustExist(place >= 0 && place < Integer.bitCount(hits));
        int ahead = 0;
        for (int item = 0; item < ITEMS; item++) {
            if (isIn(hits, item)) {
                if (ahead == place) {
                    return item;
                }
                ahead++;
            }
        }
        return NONE;
    }

    public int sum(int person, int day, int field)
            throws IndexOutOfBoundsException, IllegalArgumentException, IllegalStateException {
        mustExist(isPerson(person) && isDay(day));
        mustFit(isAnyField(field));
        mustBeAllowed(query.compile() == NONE);
        lookOn(person, day);
        return sight.total(finder.hits(), field);
    }

    public int stateOn(int item, int day) throws IndexOutOfBoundsException {
        mustExist(live.has(item) && isDay(day));
        int state = NONE;
        for (int i = 0; i < log.size && at(log.days, i) <= day; i++) {
            if (at(log.items, i) == item && at(log.whats, i) == BORN) {
                state = 0;
            } else if (at(log.items, i) == item && at(log.whats, i) == STATE) {
                state = at(log.afters, i);
            }
        }
        return state;
    }

    public int stateOnAnew(int item, int day) throws IndexOutOfBoundsException {
        mustExist(live.has(item) && isDay(day));
        int state = live.cell(item, STATE);
        for (int i = log.size - 1; i >= 0 && at(log.days, i) > day; i--) {
            if (at(log.items, i) == item && at(log.whats, i) == BORN) {
                state = NONE;
            } else if (at(log.items, i) == item && at(log.whats, i) == STATE) {
                state = at(log.befores, i);
            }
        }
        return state;
    }

    public int field(int person, int item, int field) throws IndexOutOfBoundsException, IllegalArgumentException {
        mustExist(isPerson(person) && isSeen(person, item));
        mustFit(isAnyField(field));
        return sight.value(item, field);
    }

    public int ranked(int person, int place) throws IndexOutOfBoundsException {
        mustExist(isPerson(person));
        sight.look(live, person);
        int item = ranks.atPlace(sight.seen, place);
        mustExist(item != NONE);
        return item;
    }

    public int burn(int person, int sprint, int day) throws IndexOutOfBoundsException {
        mustExist(isPerson(person) && isSprint(sprint) && isDay(day));
        view.readUpTo(log, day);
        sight.look(view.world, person);
        int left = 0;
        for (int item = 0; item < ITEMS; item++) {
            int done = at(kinds.goals, view.world.cell(item, KIND));
            if (view.world.cell(item, SPRINT) == sprint && !isIn(done, view.world.cell(item, STATE))) {
                left |= bit(item);
            }
        }
        return sight.total(left & sight.seen, 0);
    }

    // ---- automations

    public int rule(int trigger, int what, int target, int action, int to, int value)
            throws IllegalArgumentException, IllegalStateException {
        mustFit(isTrigger(trigger, what) && target >= ITSELF && target <= LINKED);
        mustFit(isAction(action, to) && isNumber(value));
        int rule = rules.size;
        mustBeAllowed(rule < RULES);
        rules.size++;
        rules.setCause(rule, trigger, what);
        rules.setDeed(rule, target, action, to, value);
        rules.setTerms(rule, NONE, NONE, 0);
        return rule;
    }

    public void narrow(int rule, int kind, int field, int least)
            throws IndexOutOfBoundsException, IllegalArgumentException {
        mustExist(rule >= 0 && rule < rules.size);
        mustFit((kind == NONE || isKind(kind)) && (field == NONE || isField(field)) && isNumber(least));
        rules.setTerms(rule, kind, field, least);
    }

    // ---- promises, bulk changes, people

    public int goal(int kind, int days, int run, int goal) throws IndexOutOfBoundsException, IllegalArgumentException {
        mustExist(isKind(kind));
        mustFit(isNumber(days) && run >= 0 && run <= ALL_STATES && goal >= 0 && goal <= ALL_STATES);
        int before = at(kinds.days, kind);
        put(kinds.days, kind, days);
        put(kinds.runs, kind, run);
        put(kinds.goals, kind, goal);
        return before;
    }

    public int left(int item) throws IndexOutOfBoundsException, IllegalStateException {
        mustExist(live.has(item));
        mustBeAllowed(goalDays(item) != NONE);
        return goalDays(item) - spentDays(item);
    }

    public int breach(int item) throws IndexOutOfBoundsException, IllegalStateException {
        mustExist(live.has(item));
        mustBeAllowed(goalDays(item) != NONE);
        int left = goalDays(item) - spentDays(item);
        boolean isRunning = isIn(at(kinds.runs, live.cell(item, KIND)), live.cell(item, STATE));
        return isRunning && left >= 0 ? dayOfWork(left) : NONE;
    }

    public int bulk(int person, int field, int value)
            throws IndexOutOfBoundsException, IllegalArgumentException, IllegalStateException {
        mustExist(isPerson(person));
        mustFit(isField(field) && isValue(value));
        mustBeAllowed(query.compile() == NONE);
        view.readUpTo(log, today);
        sight.look(view.world, person);
        int hits = finder.hits();
        int refused = 0;
        int mark = log.size;
        for (int item = 0; item < ITEMS; item++) {
            if (isIn(hits, item) && canWrite(item, field)) {
                change(person, item, VALUE + field, 0, value);
            } else if (isIn(hits, item)) {
                refused++;
            }
        }
        int changed = log.size - mark;
        mustBeAllowed(isSettled(mark, person));
        bulks.push(person, field, mark, changed);
        return 100 * changed + refused;
    }

    public int unbulk() throws IllegalStateException {
        mustBeAllowed(bulks.size > 0);
        int latest = bulks.size - 1;
        int column = VALUE + at(bulks.fields, latest);
        int first = at(bulks.firsts, latest);
        int behind = first + at(bulks.counts, latest);
        int mark = log.size;
        for (int i = first; i < behind && i < mark; i++) {
            int item = at(log.items, i);
            boolean isKept = live.cell(item, column) == at(log.afters, i);
            if (isKept && kinds.has(live.cell(item, KIND), column - VALUE)) {
                change(at(bulks.people, latest), item, column, 0, at(log.befores, i));
            }
        }
        int changed = log.size - mark;
        mustBeAllowed(isWithinLimit(mark));
        bulks.size = latest;
        return changed;
    }

    public int unite(int person, int other)
            throws IndexOutOfBoundsException, IllegalArgumentException, IllegalStateException {
        mustExist(isPerson(person) && isPerson(other));
        mustFit(person != other);
        int mark = log.size;
        for (int project = 0; project < PROJECTS; project++) {
            int both = live.rolesOf(person, project) | live.rolesOf(other, project);
            change(other, NONE, ROLES, other * PROJECTS + project, both);
        }
        int assigned = 0;
        for (int item = 0; item < ITEMS; item++) {
            if (live.has(item) && live.cell(item, ASSIGNEE) == person) {
                change(other, item, ASSIGNEE, 0, other);
                assigned++;
            }
        }
        for (int project = 0; project < PROJECTS; project++) {
            change(other, NONE, ROLES, person * PROJECTS + project, 0);
        }
        mustBeAllowed(isWithinLimit(mark));
        put(watched, other, at(watched, other) | at(watched, person));
        return assigned;
    }

    public boolean watch(int person, int item) throws IndexOutOfBoundsException {
        mustExist(isPerson(person) && isSeen(person, item));
        put(watched, person, at(watched, person) ^ bit(item));
        return isIn(at(watched, person), item);
    }

    public int inbox(int person) throws IndexOutOfBoundsException {
        mustExist(isPerson(person));
        sight.look(live, person);
        int news = at(watched, person) & sight.seen;
        int number = 0;
        for (int i = at(asked, person); i < log.size; i++) {
            if (isIn(news, at(log.items, i)) && at(log.bys, i) != person) {
                number++;
            }
        }
        put(asked, person, log.size);
        return number;
    }

    // ---- what every call is held to

    private static void mustExist(boolean isThere) {
        if (!isThere) {
            throw new IndexOutOfBoundsException("no such person, project, kind, item, rule, day or place");
        }
    }

    private static void mustFit(boolean isInRange) {
        if (!isInRange) {
            throw new IllegalArgumentException("an argument is out of its range");
        }
    }

    private static void mustBeAllowed(boolean isAllowed) {
        if (!isAllowed) {
            throw new IllegalStateException("that is refused as things stand");
        }
    }

    private static boolean isPerson(int person) {
        return person >= 0 && person < PEOPLE;
    }

    private static boolean isProject(int project) {
        return project >= 0 && project < PROJECTS;
    }

    private static boolean isKind(int kind) {
        return kind >= 0 && kind < KINDS;
    }

    private static boolean isState(int state) {
        return state >= 0 && state < STATES;
    }

    private static boolean isSprint(int sprint) {
        return sprint >= 0 && sprint < SPRINTS;
    }

    private static boolean isField(int field) {
        return field >= 0 && field < FIELDS;
    }

    /** The computed field is the one behind the others. */
    private static boolean isAnyField(int field) {
        return field >= 0 && field <= FIELDS;
    }

    private static boolean isRoles(int roles) {
        return roles >= 0 && roles <= ALL_ROLES;
    }

    private static boolean isNumber(int number) {
        return number >= 0 && number <= TOP;
    }

    private static boolean isValue(int value) {
        return value == NONE || isNumber(value);
    }

    private boolean isDay(int day) {
        return day >= 0 && day <= today;
    }

    private static boolean isTrigger(int trigger, int what) {
        switch (trigger) {
            case CREATED:
                return what == 0;
            case ENTERED:
                return isState(what);
            case WRITTEN:
                return isField(what);
            default:
                return false;
        }
    }

    private static boolean isAction(int action, int to) {
        switch (action) {
            case PUT:
                return isField(to);
            case COME:
                return isState(to);
            case GIVE:
                return isPerson(to);
            default:
                return false;
        }
    }

    // ---- what one may

    private boolean isSeen(int person, int item) {
        sight.look(live, person);
        return sight.sees(item);
    }

    private boolean canEditIn(int person, int project) {
        return (live.rolesOf(person, project) & at(sight.editors, project)) != 0;
    }

    private boolean canWrite(int item, int field) {
        return sight.canEdit(item) && sight.canRead(item, field) && kinds.has(live.cell(item, KIND), field);
    }

    /** The first transition by which a person may move an item to a state, or NONE. */
    private int stepTo(int person, int item, int to) {
        int kind = live.cell(item, KIND);
        int from = live.cell(item, STATE);
        int roles = live.rolesOf(person, live.cell(item, PROJECT));
        for (int step = 0; step < at(flows.counts, kind); step++) {
            boolean leads = flows.part(kind, step, FROM) == from && flows.part(kind, step, TO) == to;
            if (leads && (flows.part(kind, step, NEEDED) & roles) != 0
                    && isMet(item, flows.part(kind, step, TESTED), flows.part(kind, step, AT_LEAST))) {
                return step;
            }
        }
        return NONE;
    }

    /** Whether a condition holds: NONE lies below every least value, so it needs no question of its own. */
    private boolean isMet(int item, int field, int least) {
        if (field == NONE) {
            return true;
        }
        return kinds.has(live.cell(item, KIND), field) && live.cell(item, VALUE + field) >= least;
    }

    private boolean isAtOrAbove(int item, int below) {
        int each = below;
        for (int n = 0; n <= ITEMS && each != NONE; n++) {
            if (each == item) {
                return true;
            }
            each = live.cell(each, ABOVE);
        }
        return false;
    }

    /** Whether links of the type that never leads in a circle lead from an item to another one. */
    private boolean isReached(int from, int other) {
        int reached = bit(from);
        for (int n = 0; n < ITEMS && !isIn(reached, other); n++) {
            for (int item = 0; item < ITEMS; item++) {
                if (isIn(reached, item)) {
                    reached |= live.linksOf(UNCIRCLED, item);
                }
            }
        }
        return isIn(reached, other);
    }

    // ---- entries

    /** Sets a column of an item that must be edited for it; returns what was there before. */
    private int setCell(int person, int item, int column, int value) {
        mustBeAllowed(sight.canEdit(item));
        int before = live.cell(item, column);
        int mark = log.size;
        change(person, item, column, 0, value);
        mustBeAllowed(isWithinLimit(mark));
        return before;
    }

    private void change(int by, int item, int what, int other, int value) {
        int before = live.current(item, what, other);
        if (before != value) {
            log.add(today, by, item, what, other, before, value);
            live.write(item, what, other, value);
        }
    }

    private void takeBack(int mark) {
        for (int i = log.size - 1; i >= mark; i--) {
            live.undo(log, i);
        }
        log.size = Math.min(log.size, mark);
    }

    /** Takes the entries of a call back if they are too many. */
    private boolean isWithinLimit(int mark) {
        boolean isWithin = log.size <= ENTRIES;
        if (!isWithin) {
            takeBack(mark);
        }
        return isWithin;
    }

    /** Lets the rules wake upon the entries of a call; takes them all back if they are refused. */
    private boolean isSettled(int mark, int person) {
        int own = log.size;
        // The order that stays is gone through last, so that its entries are those that are left.
        boolean isFine = goesThrough(mark, person, true);
        twin.copyFrom(live);
        takeBack(own);
        isFine = isFine && goesThrough(mark, person, false) && live.isLike(twin) && log.size <= ENTRIES;
        if (!isFine) {
            takeBack(mark);
        }
        return isFine;
    }

    /** Goes through the entries from a mark on, those that come up meanwhile too; stops at an action too many. */
    private boolean goesThrough(int mark, int person, boolean isFalling) {
        int limit = log.size + ACTIONS;
        for (int entry = mark; entry < log.size && log.size <= limit; entry++) {
            wake(entry, person, isFalling, limit);
        }
        return log.size <= limit;
    }

    private void wake(int entry, int person, boolean isFalling, int limit) {
        int item = at(log.items, entry);
        for (int n = 0; n < rules.size; n++) {
            int rule = isFalling ? rules.size - 1 - n : n;
            int targets = isWoken(rule, entry) ? targetsOf(item, at(rules.targets, rule)) : 0;
            for (int target = 0; target < ITEMS && log.size <= limit; target++) {
                if (isIn(targets, target) && canTake(rule, live.cell(target, KIND))) {
                    change(person, target, at(rules.columns, rule), 0, at(rules.values, rule));
                }
            }
        }
    }

    private boolean isWoken(int rule, int entry) {
        int item = at(log.items, entry);
        int kind = at(rules.kinds, rule);
        return rules.isCause(rule, at(log.whats, entry), at(log.afters, entry))
                && (kind == NONE || kind == live.cell(item, KIND))
                && isMet(item, at(rules.fields, rule), at(rules.leasts, rule));
    }

    private int targetsOf(int item, int target) {
        switch (target) {
            case ITSELF:
                return bit(item);
            case PARENT:
                return bit(live.cell(item, ABOVE));
            case CHILDREN:
                return live.childrenOf(item);
            default:
                return live.linksOf(UNCIRCLED, item);
        }
    }

    /** Whether items of a kind have the field, or the state, that a rule gives them. */
    private boolean canTake(int rule, int kind) {
        int column = at(rules.columns, rule);
        if (column == STATE) {
            return flows.has(kind, at(rules.values, rule));
        }
        return column == ASSIGNEE || kinds.has(kind, column - VALUE);
    }

    // ---- days

    private void lookOn(int person, int day) {
        if (day == today) {
            view.readIndexed(log, indexed, person, today);
        } else {
            view.readUpTo(log, day);
        }
        sight.look(view.world, person);
    }

    private int goalDays(int item) {
        return at(kinds.days, live.cell(item, KIND));
    }

    private int spentDays(int item) {
        int runs = at(kinds.runs, live.cell(item, KIND));
        int state = NONE;
        int since = 0;
        int spent = 0;
        for (int i = 0; i < log.size; i++) {
            int what = at(log.whats, i);
            if (at(log.items, i) == item && (what == BORN || what == STATE)) {
                spent += isIn(runs, state) ? workBefore(at(log.days, i)) - workBefore(since) : 0;
                state = what == BORN ? 0 : at(log.afters, i);
                since = at(log.days, i);
            }
        }
        return spent + (isIn(runs, state) ? workBefore(today) - workBefore(since) : 0);
    }

    /** How many working days lie ahead of a day: five in each whole week, and those of the one begun. */
    private static int workBefore(int day) {
        return day / 7 * 5 + Math.min(day % 7, 5);
    }

    /** The working day, from now on, ahead of which there are just so many others, from now on. */
    private int dayOfWork(int others) {
        int wanted = workBefore(today) + others + 1;
        int day = today;
        for (int n = 0; n <= 2 * TOP && workBefore(day + 1) < wanted; n++) {
            day++;
        }
        return day;
    }

    // ---- rows and sets of bits

    private static int at(int[] row, int place) {
        return place >= 0 && place < row.length ? row[place] : 0;
    }

    private static void put(int[] row, int place, int value) {
        if (place >= 0 && place < row.length) {
            row[place] = value;
        }
    }

    private static int bit(int place) {
        return place >= 0 && place < 31 ? 1 << place : 0;
    }

    private static boolean isIn(int set, int place) {
        return place >= 0 && place < 31 && (set >> place & 1) == 1;
    }

    /** The entries, in their order. */
    private static final class Log {
        private final int[] days = new int[ROOM];
        private final int[] bys = new int[ROOM];
        private final int[] items = new int[ROOM];
        private final int[] whats = new int[ROOM];
        private final int[] others = new int[ROOM];
        private final int[] befores = new int[ROOM];
        private final int[] afters = new int[ROOM];
        private int size = 0;

        private void add(int day, int by, int item, int what, int other, int before, int after) {
            if (size >= 0 && size < ROOM) {
                days[size] = day;
                bys[size] = by;
                items[size] = item;
                whats[size] = what;
                others[size] = other;
                befores[size] = before;
                afters[size] = after;
                size++;
            }
        }
    }

    /** All items, links and role sets, as some entries make them. */
    private static final class World {
        private final int[] cells = new int[ITEMS * COLUMNS];
        private final int[] links = new int[TYPES * ITEMS];
        private final int[] roles = new int[PEOPLE * PROJECTS];
        private int there = 0;

        private void clear() {
            Arrays.fill(links, 0);
            Arrays.fill(roles, 0);
            there = 0;
        }

        private int size() {
            return Integer.bitCount(there);
        }

        private boolean has(int item) {
            return item >= 0 && item < ITEMS && (there >> item & 1) == 1;
        }

        /** A column of an item; NONE without such an item, as for a parent that is NONE. */
        private int cell(int item, int column) {
            boolean isThere = item >= 0 && item < ITEMS && (there >> item & 1) == 1;
            return isThere && column >= 0 && column < COLUMNS ? cells[item * COLUMNS + column] : NONE;
        }

        private int rolesOf(int person, int project) {
            return at(roles, person * PROJECTS + project);
        }

        private int linksOf(int type, int item) {
            boolean isThere = type >= 0 && type < TYPES && item >= 0 && item < ITEMS;
            return isThere ? links[type * ITEMS + item] : 0;
        }

        private int childrenOf(int item) {
            int children = 0;
            for (int child = 0; child < ITEMS; child++) {
                if (has(child) && cell(child, ABOVE) == item) {
                    children |= bit(child);
                }
            }
            return children;
        }

        private int current(int item, int what, int other) {
            if (what == ROLES) {
                return at(roles, other);
            }
            if (what >= LINK) {
                return isIn(linksOf(what - LINK, item), other) ? 1 : 0;
            }
            return cell(item, what);
        }

        private void write(int item, int what, int other, int value) {
            if (what == ROLES) {
                put(roles, other, value);
            } else if (what >= LINK) {
                connect(what - LINK, item, other, value == 1);
                if (what == LINK + BOTH_WAYS) {
                    connect(BOTH_WAYS, other, item, value == 1);
                }
            } else {
                put(cells, item * COLUMNS + what, value);
            }
        }

        private void connect(int type, int from, int to, boolean isOn) {
            boolean isThere = type >= 0 && type < TYPES && from >= 0 && from < ITEMS && to >= 0 && to < ITEMS;
            if (isThere) {
                int before = links[type * ITEMS + from];
                links[type * ITEMS + from] = isOn ? before | 1 << to : before & ~(1 << to);
            }
        }

        private void begin(int item, int kind, int project) {
            there |= bit(item);
            for (int column = 0; column < COLUMNS; column++) {
                put(cells, item * COLUMNS + column, NONE);
            }
            put(cells, item * COLUMNS + STATE, 0);
            put(cells, item * COLUMNS + LEVEL, 0);
            put(cells, item * COLUMNS + PROJECT, project);
            put(cells, item * COLUMNS + KIND, kind);
        }

        private void redo(Log log, int i) {
            int item = at(log.items, i);
            if (at(log.whats, i) == BORN) {
                begin(item, at(log.others, i), at(log.afters, i));
            } else {
                write(item, at(log.whats, i), at(log.others, i), at(log.afters, i));
            }
        }

        private void undo(Log log, int i) {
            int item = at(log.items, i);
            if (at(log.whats, i) == BORN) {
                there &= ~bit(item);
            } else {
                write(item, at(log.whats, i), at(log.others, i), at(log.befores, i));
            }
        }

        private void copyFrom(World other) {
            System.arraycopy(other.cells, 0, cells, 0, ITEMS * COLUMNS);
            System.arraycopy(other.links, 0, links, 0, TYPES * ITEMS);
            System.arraycopy(other.roles, 0, roles, 0, PEOPLE * PROJECTS);
            there = other.there;
        }

        private boolean isLike(World other) {
            return there == other.there && isSame(cells, other.cells) && isSame(links, other.links)
                    && isSame(roles, other.roles);
        }

        private static boolean isSame(int[] row, int[] other) {
            boolean isSame = row.length == other.length;
            for (int i = 0; i < row.length && isSame; i++) {
                isSame = row[i] == at(other, i);
            }
            return isSame;
        }
    }

    /** A world that is asked, made anew from entries, with what its entries tell of the history of its items. */
    private static final class View {
        private final World world = new World();
        private final int[] been = new int[ITEMS];
        private final int[] came = new int[ITEMS * STATES];
        private final int[] lastBys = new int[ITEMS];
        private final int[] lastDays = new int[ITEMS];
        private int day = 0;

        private void readUpTo(Log log, int lastDay) {
            world.clear();
            day = lastDay;
            for (int i = 0; i < log.size && at(log.days, i) <= lastDay; i++) {
                read(log, i);
            }
        }

        /** Reads what the index has, and behind it what a person made, but not about items that are unknown so. */
        private void readIndexed(Log log, int indexed, int person, int today) {
            world.clear();
            day = today;
            for (int i = 0; i < log.size; i++) {
                int item = at(log.items, i);
                boolean isKnown = item == NONE || at(log.whats, i) == BORN || world.has(item);
                if (i < indexed || (at(log.bys, i) == person && isKnown)) {
                    read(log, i);
                }
            }
        }

        private void read(Log log, int i) {
            int item = at(log.items, i);
            int what = at(log.whats, i);
            if (item != NONE) {
                put(lastBys, item, at(log.bys, i));
                put(lastDays, item, at(log.days, i));
            }
            if (what == BORN) {
                put(been, item, bit(0));
                for (int from = 0; from < STATES; from++) {
                    put(came, item * STATES + from, 0);
                }
            } else if (what == STATE) {
                int path = item * STATES + world.cell(item, STATE);
                put(been, item, at(been, item) | bit(at(log.afters, i)));
                put(came, path, at(came, path) | bit(at(log.afters, i)));
            }
            world.redo(log, i);
        }

        private boolean cameFrom(int item, int from, int to) {
            return isState(from) && isIn(at(came, item * STATES + from), to);
        }
    }

    /** What is told of kinds, but for their workflows. */
    private static final class Kinds {
        private final int[] fields = new int[KINDS];
        private final int[] ways = new int[KINDS];
        private final int[] overs = new int[KINDS];
        private final int[] days = new int[KINDS];
        private final int[] runs = new int[KINDS];
        private final int[] goals = new int[KINDS];

        private Kinds() {
            Arrays.fill(fields, ALL_FIELDS);
            Arrays.fill(ways, NONE);
            Arrays.fill(days, NONE);
        }

        private boolean has(int kind, int field) {
            return kind >= 0 && kind < KINDS && field >= 0 && field < FIELDS && (fields[kind] >> field & 1) == 1;
        }
    }

    /** The workflows of the kinds, and the draft of one. */
    private static final class Flows {
        private final int[] states = new int[SLOTS];
        private final int[] counts = new int[SLOTS];
        private final int[] parts = new int[SLOTS * STEPS * PARTS];
        private final int[] mapped = new int[STATES];
        private int drafted = NONE;

        private Flows() {
            Arrays.fill(states, 1);
        }

        private boolean has(int slot, int state) {
            return isIn(at(states, slot), state);
        }

        private int part(int slot, int step, int part) {
            return at(parts, (slot * STEPS + step) * PARTS + part);
        }

        private void setPart(int step, int part, int value) {
            put(parts, (DRAFT * STEPS + step) * PARTS + part, value);
        }

        private void setEnds(int step, int from, int to) {
            setPart(step, FROM, from);
            setPart(step, TO, to);
        }

        private void setTerms(int step, int roles, int field, int least, int effect) {
            setPart(step, NEEDED, roles);
            setPart(step, TESTED, field);
            setPart(step, AT_LEAST, least);
            setPart(step, EFFECT, effect);
        }

        private void begin(int kind) {
            put(states, DRAFT, at(states, kind));
            put(counts, DRAFT, at(counts, kind));
            for (int i = 0; i < STEPS * PARTS; i++) {
                put(parts, DRAFT * STEPS * PARTS + i, at(parts, kind * STEPS * PARTS + i));
            }
            Arrays.fill(mapped, NONE);
            drafted = kind;
        }

        private void add(int state) {
            put(states, DRAFT, at(states, DRAFT) | bit(state));
            put(mapped, state, NONE);
        }

        /** Returns how many transitions go with the state. */
        private int remove(int state, int to) {
            put(states, DRAFT, at(states, DRAFT) & ~bit(state));
            put(mapped, state, to);
            int count = at(counts, DRAFT);
            int kept = 0;
            for (int step = 0; step < count; step++) {
                if (part(DRAFT, step, FROM) != state && part(DRAFT, step, TO) != state) {
                    for (int part = 0; part < PARTS; part++) {
                        setPart(kept, part, part(DRAFT, step, part));
                    }
                    kept++;
                }
            }
            put(counts, DRAFT, kept);
            return count - kept;
        }

        /** Where an item of a dropped state comes to: each was mapped to one that was dropped later, if at all. */
        private int mappedFrom(int state) {
            int to = state;
            for (int n = 0; n < STATES && !has(DRAFT, to); n++) {
                to = at(mapped, to);
            }
            return to;
        }

        /** Lets a kind have the draft as its workflow, and the draft be that; twice, and all is as it was. */
        private void exchange(int kind) {
            swap(states, DRAFT, kind);
            swap(counts, DRAFT, kind);
            for (int i = 0; i < STEPS * PARTS; i++) {
                swap(parts, DRAFT * STEPS * PARTS + i, kind * STEPS * PARTS + i);
            }
        }

        private static void swap(int[] row, int place, int other) {
            int before = at(row, place);
            put(row, place, at(row, other));
            put(row, other, before);
        }
    }

    /** The schemes, and what one person may in one world by them. */
    private static final class Sight {
        private final int[] seers = new int[PROJECTS];
        private final int[] editors = new int[PROJECTS];
        private final int[] cleared = new int[LEVELS];
        private final int[] readers = new int[FIELDS + 1];
        private final int[] readable = new int[FIELDS + 1];
        private final int[] told = new int[FIELDS];
        private final Kinds kinds = new Kinds();
        private World world = new World();
        private int seen = 0;
        private int edited = 0;

        private Sight() {
            Arrays.fill(seers, ALL_ROLES);
            Arrays.fill(editors, ALL_ROLES);
            Arrays.fill(cleared, ALL_ROLES);
            Arrays.fill(readers, ALL_ROLES);
        }

        private void look(World asked, int person) {
            world = asked;
            seen = 0;
            edited = 0;
            Arrays.fill(readable, 0);
            Arrays.fill(told, 0);
            for (int item = 0; item < ITEMS; item++) {
                if (world.has(item)) {
                    lookAt(item, world.rolesOf(person, world.cell(item, PROJECT)));
                }
            }
        }

        private void lookAt(int item, int roles) {
            int project = world.cell(item, PROJECT);
            int level = world.cell(item, LEVEL);
            boolean isCleared = level == 0 || (roles & at(cleared, level)) != 0;
            if (!isCleared || (roles & at(seers, project)) == 0) {
                return;
            }
            seen |= bit(item);
            edited |= (roles & at(editors, project)) != 0 ? bit(item) : 0;
            for (int field = 0; field <= FIELDS; field++) {
                if ((roles & at(readers, field)) != 0) {
                    put(readable, field, at(readable, field) | bit(item));
                    tell(item, field);
                }
            }
        }

        /** The values that are there, so that those of kinds that lost the field are none. */
        private void tell(int item, int field) {
            if (kinds.has(world.cell(item, KIND), field) && world.cell(item, VALUE + field) != NONE) {
                put(told, field, at(told, field) | bit(item));
            }
        }

        private boolean sees(int item) {
            return isIn(seen, item);
        }

        private boolean canEdit(int item) {
            return isIn(edited, item);
        }

        private boolean canRead(int item, int field) {
            return isIn(at(readable, field), item);
        }

        /** The value as the person reads it, NONE if not at all. */
        private int value(int item, int field) {
            if (field == FIELDS) {
                return canRead(item, field) ? computed(item) : NONE;
            }
            return isIn(at(told, field), item) ? world.cell(item, VALUE + field) : NONE;
        }

        private int computed(int item) {
            int kind = world.cell(item, KIND);
            int over = at(kinds.overs, kind);
            int number = 0;
            int sum = 0;
            int least = NONE;
            int greatest = NONE;
            for (int child = 0; child < ITEMS; child++) {
                if (isIn(at(told, over), child) && world.cell(child, ABOVE) == item) {
                    int value = world.cell(child, VALUE + over);
                    number++;
                    sum += value;
                    least = least == NONE || value < least ? value : least;
                    greatest = Math.max(greatest, value);
                }
            }
            switch (at(kinds.ways, kind)) {
                case COUNT:
                    return number;
                case SUM:
                    return sum;
                case LEAST:
                    return least;
                case GREATEST:
                    return greatest;
                default:
                    return NONE;
            }
        }

        private int total(int items, int field) {
            int sum = 0;
            for (int item = 0; item < ITEMS; item++) {
                int value = isIn(items, item) ? value(item, field) : NONE;
                sum += value == NONE ? 0 : value;
            }
            return sum;
        }
    }

    /** The text, and, once it is compiled, the steps of the query, each behind those that it needs. */
    private static final class Query {
        private final char[] text = new char[LETTERS];
        private final int[] codes = new int[LETTERS];
        private final int[] firsts = new int[LETTERS];
        private final int[] seconds = new int[LETTERS];
        private final int[] thirds = new int[LETTERS];
        private final int[] opened = new int[LETTERS];
        private final int[] openedTypes = new int[LETTERS];
        private int length = 0;
        private int size = 0;
        private int depth = 0;
        private int place = 0;
        private boolean isDue = true;

        private int append(char character) {
            if (length >= 0 && length < LETTERS) {
                text[length] = character;
                length++;
            }
            return length;
        }

        /** Makes the steps; returns the fault of the text. */
        private int compile() {
            size = 0;
            depth = 0;
            place = 0;
            isDue = true;
            boolean isWell = true;
            for (int n = 0; n < LETTERS && isWell && place < length; n++) {
                isWell = isDue ? beginsWell() : goesOnWell();
            }
            return isWell && !isDue && depth == 0 ? NONE : place;
        }

        private char sign() {
            return place >= 0 && place < length && place < LETTERS ? text[place] : 0;
        }

        /** Goes by a sign if it is there. */
        private boolean takes(char wanted) {
            boolean isThere = sign() == wanted;
            place += isThere ? 1 : 0;
            return isThere;
        }

        /** Goes by a digit up to one; returns it, NONE if there is none. */
        private int digit(int last) {
            int digit = sign() - '0';
            boolean isThere = digit >= 0 && digit <= last;
            place += isThere ? 1 : 0;
            return isThere ? digit : NONE;
        }

        private boolean beginsWell() {
            char sign = sign();
            switch (sign) {
                case '!':
                case '(':
                    return takes(sign) && opens(sign, 0);
                case 'C':
                case 'U':
                    return takes(sign) && takes('[') && opens(sign, 0);
                case 'L':
                case 'I':
                    return takes(sign) && opensTyped(sign, digit(TYPES - 1));
                case 's':
                case 'k':
                case 'p':
                case 'v':
                case 'W':
                case 'B':
                    return takes(sign) && ends(sign, digit(9), 0, 0);
                case 'a':
                    return takes(sign) && (takes('x') ? ends('x', 0, 0, 0) : ends(sign, digit(9), 0, 0));
                case 'X':
                case 'D':
                    return takes(sign) && endsWithTwo(sign, digit(9));
                case 'f':
                    return takes(sign) && compares(digit(FIELDS));
                default:
                    return false;
            }
        }

        private boolean opensTyped(char sign, int type) {
            return type != NONE && takes('[') && opens(sign, type);
        }

        private boolean endsWithTwo(char sign, int first) {
            return first != NONE && ends(sign, first, digit(9), 0);
        }

        private boolean compares(int field) {
            char sign = sign();
            if (field == NONE || !(sign == '<' || sign == '=' || sign == '>' || sign == 'x') || !takes(sign)) {
                return false;
            }
            int tens = sign == 'x' ? 0 : digit(9);
            int ones = sign == 'x' || tens == NONE ? 0 : digit(9);
            return tens != NONE && ones != NONE && ends('f', field, sign, 10 * tens + ones);
        }

        private boolean opens(char sign, int type) {
            put(opened, depth, sign);
            put(openedTypes, depth, type);
            depth++;
            isDue = true;
            return true;
        }

        /** Ends a query that has all it needs, if its numbers are there, and with it those that only deny it. */
        private boolean ends(int code, int first, int second, int third) {
            if (first == NONE || second == NONE) {
                return false;
            }
            add(code, first, second, third);
            isDue = false;
            for (int n = 0; n < LETTERS && depth > 0 && at(opened, depth - 1) == '!'; n++) {
                add('!', 0, 0, 0);
                depth--;
            }
            return true;
        }

        private void add(int code, int first, int second, int third) {
            put(codes, size, code);
            put(firsts, size, first);
            put(seconds, size, second);
            put(thirds, size, third);
            size++;
        }

        private boolean goesOnWell() {
            int outer = depth > 0 ? at(opened, depth - 1) : NONE;
            switch (outer) {
                case NONE:
                    return false;
                case '(':
                    char sign = sign();
                    put(opened, depth - 1, sign);
                    isDue = true;
                    return (sign == '&' || sign == '|') && takes(sign);
                case '&':
                case '|':
                    return takes(')') && closes(outer);
                default:
                    return takes(']') && closes(outer);
            }
        }

        private boolean closes(int outer) {
            depth--;
            return ends(outer, at(openedTypes, depth), 0, 0);
        }
    }

    /** Finds the items for which a compiled query holds, for whom the sight looks, in the world of the view. */
    private static final class Finder {
        private final int[] sets = new int[LETTERS];
        private final Query query = new Query();
        private final View view = new View();
        private final Sight sight = new Sight();

        private int hits() {
            int top = 0;
            for (int step = 0; step < query.size; step++) {
                int code = at(query.codes, step);
                if (code == '&' || code == '|') {
                    top--;
                    int right = at(sets, top);
                    int left = at(sets, top - 1);
                    put(sets, top - 1, code == '&' ? left & right : left | right);
                } else if (isOfOne(code)) {
                    put(sets, top - 1, related(code, at(query.firsts, step), at(sets, top - 1)));
                } else {
                    put(sets, top, leaves(step));
                    top++;
                }
            }
            return at(sets, 0) & sight.seen;
        }

        private static boolean isOfOne(int code) {
            return code == '!' || code == 'C' || code == 'U' || code == 'L' || code == 'I';
        }

        /** The items for which a query about those of a set, or others by way of them, holds. */
        private int related(int code, int type, int set) {
            if (code == '!') {
                return ~set & view.world.there;
            }
            int others = set & sight.seen;
            int items = 0;
            for (int item = 0; item < ITEMS; item++) {
                if (code == 'C' && isIn(others, item)) {
                    items |= bit(view.world.cell(item, ABOVE));
                } else if (code == 'U' && isIn(others, view.world.cell(item, ABOVE))) {
                    items |= bit(item);
                } else if (code == 'L' && (others & view.world.linksOf(type, item)) != 0) {
                    items |= bit(item);
                } else if (code == 'I' && isIn(others, item)) {
                    items |= view.world.linksOf(type, item);
                }
            }
            return items & view.world.there;
        }

        private int leaves(int step) {
            int items = 0;
            for (int item = 0; item < ITEMS; item++) {
                boolean isSo = at(query.codes, step) == 'f' ? compares(step, item) : holds(step, item);
                items |= isSo ? bit(item) : 0;
            }
            return items & view.world.there;
        }

        private boolean compares(int step, int item) {
            int value = sight.value(item, at(query.firsts, step));
            int number = at(query.thirds, step);
            switch (at(query.seconds, step)) {
                case '>':
                    return value != NONE && value > number;
                case '<':
                    return value != NONE && value < number;
                case '=':
                    return value == number;
                default:
                    return value == NONE;
            }
        }

        private boolean holds(int step, int item) {
            int first = at(query.firsts, step);
            int second = at(query.seconds, step);
            switch (at(query.codes, step)) {
                case 's':
                    return view.world.cell(item, STATE) == first;
                case 'k':
                    return view.world.cell(item, KIND) == first;
                case 'p':
                    return view.world.cell(item, PROJECT) == first;
                case 'v':
                    return view.world.cell(item, SPRINT) == first;
                case 'a':
                    return view.world.cell(item, ASSIGNEE) == first;
                case 'x':
                    return view.world.cell(item, ASSIGNEE) == NONE;
                case 'W':
                    return isIn(at(view.been, item), first);
                case 'X':
                    return view.cameFrom(item, first, second);
                case 'D':
                    return at(view.lastDays, item) >= view.day - (10 * first + second);
                case 'B':
                    return at(view.lastBys, item) == first;
                default:
                    return false;
            }
        }
    }

    /** The rules of automation. */
    private static final class Rules {
        private final int[] triggers = new int[RULES];
        private final int[] whats = new int[RULES];
        private final int[] targets = new int[RULES];
        private final int[] columns = new int[RULES];
        private final int[] values = new int[RULES];
        private final int[] kinds = new int[RULES];
        private final int[] fields = new int[RULES];
        private final int[] leasts = new int[RULES];
        private int size = 0;

        private void setCause(int rule, int trigger, int what) {
            put(triggers, rule, trigger);
            put(whats, rule, what);
        }

        /** An action is kept as the column that it sets, and the value that it sets it to. */
        private void setDeed(int rule, int target, int action, int to, int value) {
            put(targets, rule, target);
            put(columns, rule, action == PUT ? VALUE + to : action == COME ? STATE : ASSIGNEE);
            put(values, rule, action == PUT ? value : to);
        }

        private void setTerms(int rule, int kind, int field, int least) {
            put(kinds, rule, kind);
            put(fields, rule, field);
            put(leasts, rule, least);
        }

        /** Whether a change of something to a value triggers a rule. */
        private boolean isCause(int rule, int what, int after) {
            switch (at(triggers, rule)) {
                case CREATED:
                    return what == BORN;
                case ENTERED:
                    return what == STATE && after == at(whats, rule);
                default:
                    return what == VALUE + at(whats, rule);
            }
        }
    }

    /** The row of ranks; no two items have the same one. */
    private static final class Ranks {
        private static final int GAP = 1024;

        private final int[] ranks = new int[ITEMS];
        private final int[] anew = new int[ITEMS];
        private int size = 0;

        private void append(int item) {
            int greatest = 0;
            for (int i = 0; i < size; i++) {
                greatest = Math.max(greatest, at(ranks, i));
            }
            put(ranks, item, greatest + GAP);
            size = item + 1;
        }

        private void bringAhead(int item, int before) {
            if (middle(item, before) == NONE) {
                spread(item);
            }
            put(ranks, item, middle(item, before));
        }

        /** The rank just between that of an item and of the one ahead of it; NONE if there is none between. */
        private int middle(int item, int before) {
            int high = at(ranks, before);
            int low = 0;
            for (int i = 0; i < size; i++) {
                if (i != item && at(ranks, i) < high) {
                    low = Math.max(low, at(ranks, i));
                }
            }
            int half = (low + high) / 2;
            return half > low && half < high ? half : NONE;
        }

        private void spread(int aside) {
            for (int i = 0; i < size; i++) {
                put(anew, i, GAP * (1 + aheadOf(i, ~bit(aside))));
            }
            for (int i = 0; i < size; i++) {
                put(ranks, i, at(anew, i));
            }
        }

        /** How many items of a set have a lesser rank. */
        private int aheadOf(int item, int set) {
            int ahead = 0;
            for (int i = 0; i < size; i++) {
                ahead += isIn(set, i) && at(ranks, i) < at(ranks, item) ? 1 : 0;
            }
            return ahead;
        }

        private int atPlace(int set, int place) {
            for (int item = 0; item < size; item++) {
                if (isIn(set, item) && aheadOf(item, set) == place) {
                    return item;
                }
            }
            return NONE;
        }
    }

    /** The bulk changes that were not taken back: who made each, of what field, and its entries. */
    private static final class Bulks {
        private final int[] people = new int[BULKS];
        private final int[] fields = new int[BULKS];
        private final int[] firsts = new int[BULKS];
        private final int[] counts = new int[BULKS];
        private int size = 0;

        private void push(int person, int field, int first, int count) {
            if (size < BULKS) {
                put(people, size, person);
                put(fields, size, field);
                put(firsts, size, first);
                put(counts, size, count);
                size++;
            }
        }
    }
}
