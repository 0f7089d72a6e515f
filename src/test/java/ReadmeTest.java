import java.io.IOException;
import java.lang.reflect.InvocationTargetException;
import java.lang.reflect.Method;
import java.nio.file.Files;
import java.nio.file.Path;
import java.util.HashMap;
import java.util.Map;
import java.util.regex.Matcher;
import java.util.regex.Pattern;

/** The short run of README.md: makes each call as it is written there, and compares what is said behind it. */
public final class ReadmeTest {
    private static final Pattern LINE = Pattern.compile("(?:int (\\w+) = )?x\\.(\\w+)\\((.*?)\\); *// ([^:]+): .*");

    private final AttribArbor x = new AttribArbor();
    private final Map<String, Integer> names = new HashMap<>();

    private Object[] arguments(String written) {
        if (written.isEmpty()) {
            return new Object[0];
        }
        String[] parts = written.split(", ");
        Object[] arguments = new Object[parts.length];
        for (int i = 0; i < parts.length; i++) {
            String part = parts[i];
            arguments[i] = names.containsKey(part) ? names.get(part)
                    : part.startsWith("'") ? (int) part.charAt(1) : Integer.parseInt(part);
        }
        return arguments;
    }

    private String answer(String call, Object[] arguments) throws IllegalAccessException {
        for (Method method : AttribArbor.class.getMethods()) {
            if (method.getName().equals(call) && method.getParameterCount() == arguments.length) {
                try {
                    return String.valueOf(method.invoke(x, arguments));
                } catch (InvocationTargetException e) {
                    return e.getCause().getClass().getSimpleName();
                }
            }
        }
        return "no such call";
    }

    private void run(String code) throws IllegalAccessException {
        int calls = 0;
        for (String line : code.split("\n")) {
            Matcher told = LINE.matcher(line);
            if (!told.matches()) {
                Due.is("a call with its answer, or none: " + line, line.contains("x."), false);
                continue;
            }
            calls++;
            String got = answer(told.group(2), arguments(told.group(3)));
            Due.is(line + " answers " + got, got.equals(told.group(4)), true);
            if (told.group(1) != null) {
                names.put(told.group(1), Integer.parseInt(got));
            }
        }
        Due.is("there are calls", calls > 20, true);
    }

    public static void main(String[] args) throws IOException, IllegalAccessException {
        String text = Files.readString(Path.of("README.md"));
        int from = text.indexOf("```java\n");
        int to = text.indexOf("```", from + 1);
        Due.is("README.md has a run", from >= 0 && to > from, true);
        if (from >= 0 && to > from) {
            new ReadmeTest().run(text.substring(from + 8, to));
        }
        Due.end("ReadmeTest");
    }
}
