import java.util.ArrayList;
import java.util.List;

/**
 * A call that throws changes nothing: what is asked and done behind it is answered as if it had not been made.
 * Each list of probes is made of two new objects, of which but one has the refused call.
 */
public final class Unchanged {
    private static final int PEOPLE = 8, ITEMS = 30;

    private Unchanged() {
    }

    /** The first probe that is answered otherwise behind the refused call; null if there is none. */
    public static String differs(List<String> history, String refused, int today) {
        int room = House.MOST_CALLS - history.size() - 1;
        for (List<String> probes : List.of(asked(today), lagging(today), workflows(), draft(), published(), ranked(), items(), links(),
                values(), rules(), bulks())) {
            House without = House.after(history);
            House with = House.after(history);
            with.answer(refused);
            for (String probe : probes.subList(0, Math.min(room, probes.size()))) {
                String due = without.answer(probe);
                String got = with.answer(probe);
                if (!due.equals(got)) {
                    return probe + " answers " + got + " behind it, and " + due + " without it";
                }
            }
        }
        return null;
    }

    private static List<String> asked(int today) {
        List<String> probes = new ArrayList<>(List.of("entries", "fault"));
        for (int person = 0; person < PEOPLE; person++) {
            probes.add("inbox " + person);
            probes.add("count " + person + " " + today);
            probes.add("count " + person + " 0");
            probes.add("sum " + person + " " + today + " 3");
            probes.add("found " + person + " " + today + " 0");
        }
        for (int item = 0; item < ITEMS; item++) {
            probes.add("stateOn " + item + " " + today);
            probes.add("left " + item);
            probes.add("breach " + item);
        }
        probes.addAll(List.of("wipe", "pass 1", "index", "unbulk", "forget"));
        return probes;
    }

    /** Who has roles of one's own making sees just what the index has. */
    private static List<String> lagging(int today) {
        List<String> probes = new ArrayList<>();
        for (int project = 0; project < 3; project++) {
            for (int person = 1; person < PEOPLE; person += 3) {
                probes.add("grant " + person + " " + project + " 15");
            }
        }
        probes.addAll(List.of("wipe", "type 33", "type 107", "type 57"));
        for (int person = 0; person < PEOPLE; person++) {
            probes.add("count " + person + " " + today);
            probes.add("sum " + person + " " + today + " 0");
            probes.add("sum " + person + " " + today + " 1");
        }
        return probes;
    }

    private static List<String> workflows() {
        List<String> probes = new ArrayList<>(List.of("forget"));
        for (int kind = 0; kind < 3; kind++) {
            probes.add("draft " + kind);
            for (int state = 5; state > 0; state--) {
                probes.add("drop " + state + " 0");
            }
            probes.add("forget");
        }
        return probes;
    }

    private static List<String> draft() {
        List<String> probes = new ArrayList<>();
        for (int state = 1; state < 6; state++) {
            probes.add("transition 0 " + state + " 1 -1 0 0");
        }
        for (int state = 1; state < 6; state++) {
            probes.add("drop " + state + " 0");
            probes.add("state " + state);
        }
        return probes;
    }

    private static List<String> published() {
        List<String> probes = opened();
        probes.add("publish 0");
        for (int item = 0; item < ITEMS; item++) {
            probes.add("stateOn " + item + " 0");
            for (int state = 0; state < 6; state++) {
                probes.add("move 0 " + item + " " + state);
            }
        }
        return probes;
    }

    /** From then on the person 0 sees, edits and reads all; the answers tell what was so before. */
    private static List<String> opened() {
        List<String> probes = new ArrayList<>();
        for (int project = 0; project < 3; project++) {
            probes.add("scheme " + project + " 15 15");
            for (int person = 1; person < PEOPLE; person++) {
                probes.add("grant " + person + " " + project + " 0");
            }
            probes.add("grant 0 " + project + " 15");
        }
        probes.addAll(List.of("secure 1 15", "secure 2 15", "reads 0 15", "reads 1 15", "reads 2 15", "reads 3 15"));
        return probes;
    }

    private static List<String> ranked() {
        List<String> probes = opened();
        for (int place = 0; place < ITEMS; place++) {
            probes.add("ranked 0 " + place);
        }
        for (int item = 1; item < ITEMS; item++) {
            probes.add("drag 0 " + item + " " + (item - 1));
        }
        probes.addAll(List.of("create 0 0 0", "drag 0 0 1", "ranked 0 0", "ranked 0 29"));
        return probes;
    }

    private static List<String> items() {
        List<String> probes = opened();
        for (int item = 0; item < ITEMS; item++) {
            probes.add("assign 0 " + item + " -1");
            probes.add("sprint 0 " + item + " -1");
            probes.add("nest 0 " + item + " -1");
            probes.add("transfer 0 " + item + " 0");
            probes.add("transfer 0 " + item + " 1");
            probes.add("watch 0 " + item);
        }
        return probes;
    }

    private static List<String> links() {
        List<String> probes = opened();
        for (int type = 0; type < 3; type++) {
            for (int item = 0; item < 6; item++) {
                for (int other = 0; other < 6; other++) {
                    probes.add("link 0 " + type + " " + item + " " + other + " 0");
                }
            }
        }
        return probes;
    }

    private static List<String> values() {
        List<String> probes = new ArrayList<>();
        for (int item = 0; item < ITEMS; item++) {
            for (int field = 0; field < 4; field++) {
                probes.add("field " + item % PEOPLE + " " + item + " " + field);
            }
        }
        for (int sprint = 0; sprint < 4; sprint++) {
            probes.add("burn 0 " + sprint + " 0");
        }
        probes.addAll(opened());
        probes.addAll(List.of("kind 0 7 0 0", "kind 1 7 0 0", "kind 2 7 0 0"));
        for (int item = 0; item < ITEMS; item++) {
            for (int field = 0; field < 4; field++) {
                probes.add("field 0 " + item + " " + field);
            }
        }
        return probes;
    }

    private static List<String> rules() {
        List<String> probes = opened();
        for (int item = 0; item < 4; item++) {
            probes.add("set 0 " + item + " 0 9");
            probes.add("set 0 " + item + " 1 9");
            probes.add("set 0 " + item + " 2 9");
            probes.add("move 0 " + item + " 1");
            probes.add("field 0 " + item + " 0");
            probes.add("field 0 " + item + " 1");
        }
        probes.addAll(List.of("create 0 0 0", "entries", "rule 0 0 0 0 0 0", "narrow 3 0 0 0", "narrow 5 0 0 0"));
        for (int kind = 0; kind < 3; kind++) {
            probes.add("goal " + kind + " 0 0 0");
        }
        return probes;
    }

    private static List<String> bulks() {
        List<String> probes = opened();
        for (int i = 0; i < 12; i++) {
            probes.add("unbulk");
        }
        for (int person = 0; person < PEOPLE; person++) {
            for (int item = 0; item < 4; item++) {
                probes.add("watch " + person + " " + item);
            }
        }
        return probes;
    }
}
