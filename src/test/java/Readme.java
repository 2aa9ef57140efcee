import java.io.IOException;
import java.nio.file.Files;
import java.nio.file.Path;
import java.util.regex.Matcher;
import java.util.regex.Pattern;

/**
 * Writes the example of README.md as a class ReadmeExample that holds each line to the answer that is told behind it.
 * Arguments: the README, and the file to write.
 */
public final class Readme {
    private static final Pattern BLOCK = Pattern.compile("(?s)```java\n(.*?)```");
    private static final Pattern ANSWERED = Pattern.compile(" *(int (\\w+) = )?(house\\.(.*));\\s+// ([^:]+)(:.*)?");
    private static final String HEAD = """
            public final class ReadmeExample {
                private static int held = 0;
                private static int wrong = 0;

                private static void due(String call, Object got, Object due) {
                    held++;
                    if (!got.equals(due)) {
                        wrong++;
                        System.out.println(call + " answered " + got + ", README.md tells " + due);
                    }
                }

                public static void main(String[] args) {
            """;
    private static final String FOOT = """
                    System.out.println(held + " answers are held, " + wrong + " are not as README.md tells");
                    if (wrong > 0 || held < 20) {
                        System.exit(1);
                    }
                }
            }
            """;

    public static void main(String[] args) throws IOException {
        StringBuilder code = new StringBuilder(HEAD);
        Matcher blocks = BLOCK.matcher(Files.readString(Path.of(args[0])));
        while (blocks.find()) {
            code.append("{\n");
            blocks.group(1).lines().forEach(line -> code.append(held(line)).append('\n'));
            code.append("}\n");
        }
        Files.writeString(Path.of(args[1]), code.append(FOOT));
    }

    /** A line as it stands, or, if its answer is told, one that holds it to that. */
    private static String held(String line) {
        Matcher answered = ANSWERED.matcher(line);
        if (!answered.matches()) {
            return line;
        }
        String call = "\"" + answered.group(4).replace("\"", "'") + "\"";
        String due = answered.group(5);
        if (due.endsWith("Exception")) {
            return "try { due(" + call + ", " + answered.group(3) + ", \"" + due + "\"); } catch (RuntimeException e) {"
                    + " due(" + call + ", e.getClass().getSimpleName(), \"" + due + "\"); }";
        }
        String name = answered.group(2);
        return name == null ? "due(" + call + ", " + answered.group(3) + ", " + due + ");"
                : line + "\ndue(" + call + ", " + name + ", " + due + ");";
    }
}
