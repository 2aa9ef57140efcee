import java.io.IOException;
import java.nio.file.Files;
import java.nio.file.Path;
import java.util.ArrayList;
import java.util.List;
import java.util.TreeMap;

/**
 * Tells which sentences of the document no test of src/test/edges quotes, and which quotes are not in it (any more).
 * It is a report, not a test: the document may be put into other words without the program being wrong by that.
 * Arguments: the document, and the scripts. A script pNN-.. quotes from the promise NN, any other one from the terms.
 */
public final class Sentences {
    private static final String TERMS = "terms";

    private final TreeMap<String, List<String>> sentences = new TreeMap<>();
    private final TreeMap<String, List<String>> quotes = new TreeMap<>();

    public static void main(String[] args) throws IOException {
        Sentences all = new Sentences();
        all.read(Files.readString(Path.of(args[0])));
        for (int i = 1; i < args.length; i++) {
            all.quote(Path.of(args[i]));
        }
        all.report();
    }

    private static String plain(String text) {
        return text.replace("`", "").replaceAll("\\s+", " ").trim();
    }

    private void read(String document) {
        String section = "";
        for (String part : document.split("\n(?=#)|\n\\s*\n|\n(?=- )")) {
            String text = plain(part);
            if (text.startsWith("#")) {
                String head = text.replaceAll("^#+ ", "");
                section = head.startsWith("Promise ") ? head.replaceAll("\\D+", " ").trim().split(" ")[0]
                        : part.startsWith("###") || head.equals("Terms") ? TERMS : "";
            } else if (!section.isEmpty() && !text.matches("(The constants:|[A-Z]+ = |Ahead of the calls).*")) {
                split(section, part);
            }
        }
    }

    /** The forms of a query stand in lines of their own, far from each other. */
    private void split(String section, String part) {
        String[] pieces = part.startsWith("```") ? part.replaceAll("```(text)?", "").split("\n|\\s{3,}")
                : plain(part).replaceAll("^- ", "").replaceAll("^(int|boolean|void|TrackHouse\\(\\)).*?\\)[^:]*: ", "")
                .split("(?<=\\.)\\s");
        for (String piece : pieces) {
            if (!plain(piece).isEmpty()) {
                sentences.computeIfAbsent(section, k -> new ArrayList<>()).add(plain(piece));
            }
        }
    }

    private void quote(Path script) throws IOException {
        String name = script.getFileName().toString();
        String section = name.startsWith("p") ? "" + Integer.parseInt(name.substring(1, 3)) : TERMS;
        for (String line : Files.readAllLines(script)) {
            if (line.startsWith("test ")) {
                for (String quote : line.substring(5).split(" -- ")[0].split(" / ")) {
                    quotes.computeIfAbsent(section, k -> new ArrayList<>()).add(plain(quote));
                }
            }
        }
    }

    private void report() {
        int number = 0;
        int quoted = 0;
        for (String section : sentences.keySet()) {
            List<String> theirs = quotes.getOrDefault(section, List.of());
            for (String sentence : sentences.get(section)) {
                number++;
                if (theirs.stream().anyMatch(q -> q.contains(sentence) || sentence.contains(q))) {
                    quoted++;
                } else {
                    System.out.println("no test quotes, of " + section + ": " + sentence);
                }
            }
            String whole = String.join(" ", sentences.get(section));
            for (String quote : theirs) {
                if (!whole.contains(quote)) {
                    System.out.println("not in the document, of " + section + ": " + quote);
                }
            }
        }
        System.out.println(quoted + " of " + number + " sentences are quoted by tests");
    }
}
