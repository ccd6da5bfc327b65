import java.io.IOException;
import java.lang.reflect.Field;
import java.lang.reflect.Method;
import java.nio.file.Files;
import java.nio.file.Path;
import java.util.Iterator;
import java.util.regex.MatchResult;
import java.util.regex.Pattern;

/** The example in README.md answers what stands beside its calls, and README.md tells the whole public face. */
public final class ReadmeTest {
    private static final Pattern ANSWERED = Pattern.compile("(?m)^(?:int s = )?(x\\..*\\)); +// (-?\\d+)\\b");
    private static final Check check = new Check();

    public static void main(String[] args) throws ReflectiveOperationException, IOException {
        String readme = Files.readString(Path.of("README.md"));
        example(ANSWERED.matcher(readme).results().iterator());
        for (Method method : SampleStore.class.getMethods()) {
            if (method.getDeclaringClass() == SampleStore.class) {
                tells(readme, rowOf(method));
            }
        }
        for (Field field : SampleStore.class.getFields()) {
            tells(readme, Pattern.quote("- `" + field.getName() + "` (" + field.getInt(null) + "):"));
        }
        check.end();
    }

    private static void example(Iterator<MatchResult> told) {
        SampleStore x = new SampleStore();
        int s = x.series(1 + 4 * 2 + 16 * 3);
        next(told, "x.series(1 + 4 * 2 + 16 * 3)", s);
        next(told, "x.append(s, 10, 100)", x.append(s, 10, 100));
        next(told, "x.append(s, 20, 40)", x.append(s, 20, 40));
        int any = 4 + 9 * 4 + 81 * 4;
        next(told, "x.count(any, 0, 15)", x.count(any, 0, 15));
        next(told, "x.sum(any, 0, 999)", x.sum(any, 0, 999));
        next(told, "x.least(any, 0, 999)", x.least(any, 0, 999));
        next(told, "x.most(any, 0, 999)", x.most(any, 0, 999));
        next(told, "x.ranked(any, 0, 999, 1)", x.ranked(any, 0, 999, 1));
        next(told, "x.growth(any, 0, 999)", x.growth(any, 0, 999));
        next(told, "x.at(s, 69)", x.at(s, 69));
        next(told, "x.at(s, 70)", x.at(s, 70));
        int others = 6 + 9 * 4 + 81 * 4;
        next(told, "x.matching(others)", x.matching(others));
        next(told, "x.matching(any)", x.matching(any));
        x.sync();
        next(told, "x.expire(15)", x.expire(15));
        next(told, "x.length(s)", x.length(s));
        next(told, "x.crash()", x.crash());
        check.due("README.md has more calls than this test", told.hasNext(), false);
    }

    private static void next(Iterator<MatchResult> told, String call, int got) {
        check.due("README.md has " + call, told.hasNext(), true);
        if (told.hasNext()) {
            MatchResult line = told.next();
            check.due(call + " stands in README.md as " + line.group(1), line.group(1).equals(call), true);
            check.due(call, got, Integer.parseInt(line.group(2)));
        }
    }

    /** The method's row in the table of calls. */
    private static String rowOf(Method method) {
        String names = "\\w+, ".repeat(method.getParameterCount()).replaceFirst(", $", "");
        return "\\| `" + method.getName() + "\\(" + names + "\\)` \\|";
    }

    private static void tells(String readme, String pattern) {
        check.due("README.md has " + pattern, Pattern.compile(pattern).matcher(readme).results().count(), 1);
    }
}
