import java.io.IOException;
import java.nio.file.Files;
import java.nio.file.Path;
import java.util.List;
import java.util.Map;
import java.util.Set;
import java.util.TreeMap;
import java.util.TreeSet;
import java.util.regex.Matcher;
import java.util.regex.Pattern;
import java.util.stream.Stream;

/** The source keeps to the rules of LANGUAGE.md that its text can show; FaceTest sees to those of the public face. */
public final class LanguageTest {
    private static final Path MAIN = Path.of("src/main");
    private static final Path FILE = MAIN.resolve("java/SampleStore.java");
    private static final Pattern COMMENT = Pattern.compile("/\\*.*?\\*/|//[^\n]*", Pattern.DOTALL);
    private static final Pattern CALL = Pattern.compile("\\b(?!(if|for|while|switch|return)\\b)([A-Za-z]\\w*)\\s*\\(");
    private static final Pattern METHOD = Pattern.compile(
        "(?m)^    [^ ;=(\n][^;=(\n]*\\([^;=]*\\{\n(?s:.*?)^    \\}\n");
    private static final String CONSTANT = "(?m)^    (public|private) static final (int|long) \\w+ = [^;(]*;$";
    private static final String ARRAY = "(?m)^    private final \\w+\\[\\] \\w+ = new \\w+\\[\\w+\\];$";
    private static final String FIELD = "(?m)^    private [^(;]*;";
    private static final int DEEPEST = 6;
    private static final int LONGEST = 60;
    private static final int MOST_FIELDS = 40;
    private static final Check check = new Check();
    private static String source;

    public static void main(String[] args) throws IOException {
        source = COMMENT.matcher(Files.readString(FILE)).replaceAll("");
        check.due("files of the program", filesOfTheProgram(), 1);
        whatMayNotStand();
        howMethodsAreCut();
        check.end();
    }

    private static void whatMayNotStand() {
        none("1: no package, one class", "\\b(package|interface|enum|record|class(?! SampleStore ))\\b");
        none("2: whole numbers, arrays with one dimension", "\\b(float|double|String)\\b|\\[\\s*\\]\\s*\\[|\"");
        none("3: no class but its own", "\\bimport\\b|\\b(?!SampleStore\\b)[A-Z]\\w*[a-z]\\w*");
        none("3: no method of Object", "\\b(toString|equals|hashCode|getClass|clone|finalize|wait|notify(All)?)\\b");
        none("4: no array is answered, null is not used", "\\w\\s*\\[\\] \\w+\\(|\\bnull\\b");
        noneBut(ARRAY, "4: arrays are made in their fields' initialisers", "\\bnew\\b|^    [^(\n]*\\[\\][^(\n]*;");
        noneBut(CONSTANT, "5: static fields are constants", "\\bstatic\\b(?! \\w+ \\w+\\()");
        none("6: no exceptions, no lambdas and the like",
            "\\b(throws?|try|catch|finally|synchronized|assert|instanceof)\\b|->|::");
        none("8: a bound for each loop", "while \\(true\\)|for \\([^;]*;\\s*;");
    }

    private static void howMethodsAreCut() {
        List<String> methods = METHOD.matcher(source).results().map(found -> found.group()).toList();
        // Otherwise a method in another style would slip past the rules below.
        int due = SampleStore.class.getDeclaredMethods().length + SampleStore.class.getDeclaredConstructors().length;
        check.due("methods and constructors found", methods.size(), due);
        check.due("rule 8 and 10: methods called more than six deep", calledAt(DEEPEST, methods), 0);
        check.due("rule 10: calls inside the arguments of calls", callsInArguments(), 0);
        long tooLong = methods.stream().filter(text -> text.lines().count() > LONGEST).count();
        check.due("rule 10: methods above sixty lines", tooLong, 0);
        long fields = Pattern.compile(FIELD).matcher(source.replaceAll(CONSTANT, "")).results().count();
        check.due("rule 10: fields, " + fields + " of them, at most forty", fields <= MOST_FIELDS, true);
    }

    private static long filesOfTheProgram() throws IOException {
        try (Stream<Path> found = Files.walk(MAIN)) {
            return found.filter(Files::isRegularFile).count();
        }
    }

    private static void none(String rule, String outside) {
        noneBut("$^", rule, outside);
    }

    private static void noneBut(String allowed, String rule, String outside) {
        Matcher found = Pattern.compile(outside, Pattern.MULTILINE).matcher(source.replaceAll(allowed, ""));
        while (found.find()) {
            check.due("rule " + rule + ": '" + found.group().strip() + "'", 1, 0);
        }
        check.due("rule " + rule, found.reset().results().count(), 0);
    }

    private static int callsInArguments() {
        int inside = 0;
        Matcher call = CALL.matcher(source);
        while (call.find()) {
            inside += CALL.matcher(argumentsFrom(call.end())).find() ? 1 : 0;
        }
        return inside;
    }

    private static String argumentsFrom(int start) {
        int end = start;
        for (int open = 1; open > 0; end++) {
            open += source.charAt(end) == '(' ? 1 : source.charAt(end) == ')' ? -1 : 0;
        }
        return source.substring(start, end);
    }

    /** How many methods a chain of so many calls can still reach; a recursion reaches itself at any depth. */
    private static int calledAt(int depth, List<String> methods) {
        Map<String, Set<String>> calls = new TreeMap<>();
        for (String method : methods) {
            List<String> names = CALL.matcher(method).results().map(found -> found.group(2)).toList();
            calls.put(names.get(0), new TreeSet<>(names.subList(1, names.size())));
        }
        Set<String> reached = calls.keySet();
        for (int i = 0; i < depth; i++) {
            Set<String> next = new TreeSet<>();
            reached.forEach(name -> next.addAll(calls.getOrDefault(name, Set.of())));
            reached = next;
        }
        return reached.size();
    }
}
