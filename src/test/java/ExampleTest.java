import java.io.IOException;
import java.lang.reflect.Method;
import java.nio.file.Files;
import java.nio.file.Path;
import java.util.regex.Matcher;
import java.util.regex.Pattern;

/** Runs the lines of the example in README.md; each must answer what is told behind it. */
public final class ExampleTest {
    private static final Due DUE = new Due("ExampleTest");
    private static final Pattern FED = Pattern.compile("feed\\(net, \"(.*)\"\\);");
    private static final Pattern CALL = Pattern.compile("net\\.(\\w+)\\((.*)\\); *// (-?\\w+)[:,].*");

    private ExampleTest() {
    }

    public static void main(String[] args) throws IOException, ReflectiveOperationException {
        HammockNet net = new HammockNet();
        int calls = 0;
        for (String line : Files.readAllLines(Path.of("README.md"))) {
            Matcher fed = FED.matcher(line);
            Matcher call = CALL.matcher(line);
            if (fed.matches()) {
                Due.feed(net, fed.group(1));
            } else if (call.matches()) {
                DUE.is(line, answer(net, call.group(1), call.group(2)), due(call.group(3)));
                calls++;
            }
        }
        DUE.is("calls in the example", calls, 13);
        DUE.end();
    }

    private static int due(String told) {
        return told.equals("true") ? 1 : Integer.parseInt(told);
    }

    private static int answer(HammockNet net, String name, String numbers) throws ReflectiveOperationException {
        String[] told = numbers.isEmpty() ? new String[0] : numbers.split(", ");
        Class<?>[] types = new Class<?>[told.length];
        Object[] values = new Object[told.length];
        for (int i = 0; i < told.length; i++) {
            types[i] = int.class;
            values[i] = Integer.valueOf(told[i]);
        }
        Method method = HammockNet.class.getMethod(name, types);
        Object answer = method.invoke(net, values);
        return answer instanceof Boolean ? (answer.equals(true) ? 1 : 0) : (Integer) answer;
    }
}
