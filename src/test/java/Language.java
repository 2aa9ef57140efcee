import java.io.IOException;
import java.lang.reflect.Field;
import java.lang.reflect.Method;
import java.lang.reflect.Modifier;
import java.nio.file.Files;
import java.nio.file.Path;
import java.util.ArrayList;
import java.util.List;
import java.util.Set;
import java.util.TreeSet;
import java.util.regex.Matcher;
import java.util.regex.Pattern;

/** What of LANGUAGE.md can be told from the file and its classes; argument: the file. */
public final class Language {
    private static final String[] RULED_OUT = {
        "->", "::", "\\bpackage\\b", "\\bsynchronized\\b", "\\bassert\\b", "\\bfinally\\b", "\\bstatic \\{",
        "\\bthrows? Exception\\b", "\\bThrowable\\b", "\\bError\\b", "Exact\\(", "\\bvar\\b",
        "\\bSystem\\.(?!arraycopy\\()",
        "\\bArrays\\.(?!copyOf\\(|copyOfRange\\(|fill\\()", "\\bString\\.", "\\bThread\\b", "\\bRandom\\b", "\\bMap\\b",
        "\\bgetMessage\\b", "\\bhashCode\\b", "\\btoString\\b", "\\bcatch\\b", "\\bObject\\b", "\"\\s*\\+|\\+\\s*\"",
    };
    private static int wrong = 0;

    public static void main(String[] args) throws IOException {
        String whole = Files.readString(Path.of(args[0]));
        String code = whole.replaceAll("(?s)/\\*.*?\\*/", "").replaceAll("//[^\n]*", "");
        for (String out : RULED_OUT) {
            Matcher matcher = Pattern.compile(out).matcher(code);
            check("the file has " + out, !matcher.find());
        }
        Matcher imports = Pattern.compile("import ([^;]*);").matcher(code);
        while (imports.find()) {
            check("import of " + imports.group(1), Set.of("java.util.Arrays", "java.util.ArrayList",
                    "java.util.List").contains(imports.group(1)));
        }
        for (char sign : whole.toCharArray()) {
            check("the sign " + (int) sign, sign < 127);
        }
        methodLengths(code);
        classes();
        System.out.println(wrong == 0 ? "the language is as due" : wrong + " things are not as due");
        if (wrong != 0) {
            System.exit(1);
        }
    }

    private static void methodLengths(String code) {
        Matcher heads = Pattern.compile("(?m)^( +)(?:public|private) [^=;]*?\\([^;{]*\\{$").matcher(code);
        int methods = 0;
        while (heads.find()) {
            int end = code.indexOf("\n" + heads.group(1) + "}", heads.end());
            long lines = code.substring(heads.start(), end).lines().count() + 1;
            check(lines + " lines: " + heads.group().trim(), lines <= 60);
            methods++;
        }
        check("only " + methods + " methods were found", methods > 100);
    }

    private static void classes() {
        List<Class<?>> all = new ArrayList<>(List.of(TrackHouse.class.getDeclaredClasses()));
        all.add(TrackHouse.class);
        check(all.size() + " classes", all.size() <= 12);
        Set<String> face = new TreeSet<>();
        for (Method method : TrackHouse.class.getMethods()) {
            face.add(method.getName());
        }
        for (Class<?> type : all) {
            int fields = 0;
            for (Field field : type.getDeclaredFields()) {
                boolean isStatic = Modifier.isStatic(field.getModifiers());
                check(field + " is not final", !isStatic || Modifier.isFinal(field.getModifiers()));
                fields += isStatic ? 0 : 1;
            }
            check(type + " has " + fields + " fields", fields <= 20);
            for (Method method : type.getDeclaredMethods()) {
                check(method + " has too many parameters", method.getParameterCount() <= 7);
                check(method + " bears a name of the face", !Modifier.isPrivate(method.getModifiers())
                        || !face.contains(method.getName()));
            }
        }
    }

    private static void check(String what, boolean isFine) {
        if (!isFine) {
            wrong++;
            System.out.println(what);
        }
    }
}
