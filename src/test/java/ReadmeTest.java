import java.io.IOException;
import java.lang.reflect.InvocationTargetException;
import java.lang.reflect.Method;
import java.nio.file.Files;
import java.nio.file.Path;
import java.util.ArrayList;
import java.util.List;
import java.util.regex.Matcher;
import java.util.regex.Pattern;

/** The run of calls in README.md: the answers are those that stand behind them. */
public final class ReadmeTest {
    private static final Pattern CALL = Pattern.compile("ledger\\.(\\w+)\\((.*?)\\); +// ([-\\w]+): .*");

    public static void main(String[] args) throws IOException {
        List<String> run = run();
        Check.same("it begins with", run.get(0), "GridLedger ledger = new GridLedger();");
        GridLedger ledger = new GridLedger();
        for (String line : run.subList(1, run.size())) {
            Matcher call = CALL.matcher(line);
            boolean right = call.matches();
            Check.same(line, right ? answer(ledger, call) : "no call", right ? call.group(3) : "a call");
        }
        Check.finish();
    }

    private static List<String> run() throws IOException {
        List<String> run = new ArrayList<>();
        boolean inside = false;
        for (String line : Files.readAllLines(Path.of("README.md"))) {
            if (line.startsWith("```")) {
                inside = line.equals("```java");
            } else if (inside) {
                run.add(line);
            }
        }
        return run;
    }

    private static String answer(GridLedger ledger, Matcher call) {
        String[] words = call.group(2).isEmpty() ? new String[0] : call.group(2).split(", ");
        try {
            for (Method method : GridLedger.class.getMethods()) {
                if (method.getName().equals(call.group(1))) {
                    return String.valueOf(method.invoke(ledger, given(method, words)));
                }
            }
            return "no method";
        } catch (InvocationTargetException e) {
            return e.getCause().getClass().getSimpleName();
        } catch (IllegalAccessException e) {
            return "a hidden method";
        }
    }

    private static Object[] given(Method method, String[] words) {
        Object[] given = new Object[words.length];
        for (int i = 0; i < words.length; i++) {
            boolean truth = method.getParameterTypes()[i] == boolean.class;
            given[i] = truth ? (Object) Boolean.valueOf(words[i]) : (Object) Integer.decode(words[i]);
        }
        return given;
    }
}
