import java.io.IOException;
import java.lang.reflect.Constructor;
import java.lang.reflect.Field;
import java.lang.reflect.Method;
import java.lang.reflect.Modifier;
import java.nio.charset.StandardCharsets;
import java.nio.file.Files;
import java.nio.file.Path;
import java.util.ArrayList;
import java.util.Arrays;
import java.util.List;
import java.util.Set;
import java.util.TreeSet;
import java.util.regex.Matcher;
import java.util.regex.Pattern;

/** What of ../shared/LANGUAGE.md can be seen from the class and from its text. */
public final class LanguageTest {
    private static final Due DUE = new Due("LanguageTest");
    private static final Path DOCUMENT = Path.of("../shared/DOC.md");
    private static final String FILE = "src/main/java/TurningMarket.java";

    /** The document's face: each method's name and its parameters, i for int, l for long. */
    private static final String FACE = "feed:iiiii end:i market: fault:i stall:ii buyer:ii want:iii at:ii comes:iii there:iii"
        + " face:iii often:ii asks:ii has:ii sold:ii bought:ii coins:ii sale:ii all:i best:i cost:i choice:ii needs:i"
        + " send:iiii round:ii swap:i moves:ii offer:ii wise:i theft:ii passed:iii harm:ii least:i turn:ii again: drawn:ii"
        + " chance:iiii judge:i count:i keep:i back:i row:iii write:iil paste:iiiii";

    private static final String[] FORBIDDEN = {"throw", "throws", "try", "catch", "finally", "synchronized", "assert", "instanceof",
        "Object", "System.out", "System.err", "Exception", "Thread", "Random", "->", "::", "equals", "hashCode", "toString",
        "native", "volatile", "transient", "goto", "package", "extends", "Exact", "HashMap", "String.format"};

    public static void main(String[] args) throws IOException {
        face();
        inner();
        text();
        DUE.finish();
    }

    private static void must(String what, boolean holds) {
        DUE.due(what, holds ? 1 : 0, 1);
    }

    private static void face() throws IOException {
        Class<?> market = TurningMarket.class;
        must("public and final", Modifier.isPublic(market.getModifiers()) && Modifier.isFinal(market.getModifiers()));
        Set<String> names = new TreeSet<>();
        Set<String> found = new TreeSet<>();
        for (Method m : market.getDeclaredMethods()) {
            if (Modifier.isPublic(m.getModifiers())) {
                names.add(m.getName());
                found.add(described(m));
            } else {
                must("private: " + m, Modifier.isPrivate(m.getModifiers()) || m.isSynthetic());
            }
        }
        must("the face is the document's", found.equals(new TreeSet<>(Arrays.asList(FACE.split(" ")))));
        Set<String> told = toldFace();
        must("the face is that of " + DOCUMENT, told.isEmpty() || found.equals(told));
        for (Class<?> type : classes()) {
            for (Method m : type.getDeclaredMethods()) {
                must("no private method bears a public name: " + m, Modifier.isPublic(m.getModifiers()) || !names.contains(m.getName()));
            }
        }
        Constructor<?>[] constructors = market.getDeclaredConstructors();
        must("one public constructor", constructors.length == 1 && constructors[0].getParameterCount() == 0
            && Modifier.isPublic(constructors[0].getModifiers()));
        for (Field f : market.getDeclaredFields()) {
            must("private or NONE: " + f, Modifier.isPrivate(f.getModifiers()) || f.getName().equals("NONE"));
        }
    }

    /** The methods that the document's block of code tells; none, if the document is not here. */
    private static Set<String> toldFace() throws IOException {
        Set<String> told = new TreeSet<>();
        if (!Files.isReadable(DOCUMENT)) {
            return told;
        }
        String block = Files.readString(DOCUMENT, StandardCharsets.UTF_8).split("```java")[1].split("```")[0];
        Matcher method = Pattern.compile("public int (\\w+)\\(([^)]*)\\);").matcher(block);
        while (method.find()) {
            told.add(method.group(1) + ":" + method.group(2).replaceAll("int \\w+", "i").replaceAll("long \\w+", "l").replace(", ", ""));
        }
        must("methods in " + DOCUMENT, told.size() > 0);
        return told;
    }

    private static String described(Method m) {
        StringBuilder text = new StringBuilder(m.getName() + ":");
        for (Class<?> type : m.getParameterTypes()) {
            text.append(type == int.class ? 'i' : type == long.class ? 'l' : '?');
        }
        return m.getReturnType() == int.class ? text.toString() : "no int: " + text;
    }

    private static List<Class<?>> classes() {
        List<Class<?>> classes = new ArrayList<>(Arrays.asList(TurningMarket.class.getDeclaredClasses()));
        classes.add(TurningMarket.class);
        return classes;
    }

    private static void inner() {
        must("some twelve classes", classes().size() <= 13);
        for (Class<?> type : classes()) {
            if (type != TurningMarket.class) {
                must("static and not public: " + type, Modifier.isStatic(type.getModifiers()) && !Modifier.isPublic(type.getModifiers()));
            }
            must("no class deeper inside: " + type, type == TurningMarket.class || type.getDeclaredClasses().length == 0);
            int fields = 0;
            for (Field f : type.getDeclaredFields()) {
                must("a static field is final: " + f, !Modifier.isStatic(f.getModifiers()) || Modifier.isFinal(f.getModifiers()));
                fields += Modifier.isStatic(f.getModifiers()) ? 0 : 1;
            }
            must("some twenty fields: " + type, fields <= 20);
            for (Method m : type.getDeclaredMethods()) {
                must("at most seven parameters: " + m, m.getParameterCount() <= 7);
            }
        }
    }

    private static void text() throws IOException {
        String whole = Files.readString(Path.of(FILE), StandardCharsets.UTF_8);
        must("signs 1 to 127", whole.chars().allMatch(c -> c > 0 && c < 128));
        String code = whole.replaceAll("(?s)/\\*.*?\\*/", "").replaceAll("//[^\n]*", "");
        for (String word : FORBIDDEN) {
            must("without " + word, !Pattern.compile("(?<![A-Za-z])" + Pattern.quote(word) + "(?![A-Za-z])").matcher(code).find());
        }
        must("no text is joined by +", !Pattern.compile("\"\\s*\\+|\\+\\s*\"").matcher(code).find());
        Matcher imports = Pattern.compile("import ([^;]+);").matcher(code);
        while (imports.find()) {
            must("import " + imports.group(1), imports.group(1).equals("java.util.Arrays"));
        }
        shortMethods(code.split("\n"));
    }

    /** A method begins at an indent of four or eight blanks and ends with a bracket at the same one. */
    private static void shortMethods(String[] lines) {
        for (int i = 0; i < lines.length; i++) {
            Matcher head = Pattern.compile("^( {4}| {8})[a-zA-Z].*\\) \\{$").matcher(lines[i]);
            if (!head.matches()) {
                continue;
            }
            int end = i;
            while (!lines[end].equals(head.group(1) + "}")) {
                end++;
            }
            must("sixty lines at most: " + lines[i].trim(), end - i <= 60);
        }
    }
}
