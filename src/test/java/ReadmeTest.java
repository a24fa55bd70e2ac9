import java.io.IOException;
import java.lang.reflect.InvocationTargetException;
import java.lang.reflect.Method;
import java.nio.file.Files;
import java.nio.file.Path;
import java.util.regex.Matcher;
import java.util.regex.Pattern;

/** The rows of calls in README.md, one behind the other on one object, with the answers that the page tells. */
public final class ReadmeTest {
    private static final Pattern BLOCK = Pattern.compile("(?s)```java\n(.*?)```");
    private static final Pattern CALL = Pattern.compile("x\\.([a-z]+)\\(([^)]*)\\);");

    private static ClayDisc x = null;

    public static void main(String[] args) throws IOException, IllegalAccessException {
        int rows = 0;
        Matcher block = BLOCK.matcher(Files.readString(Path.of("README.md")));
        while (block.find()) {
            for (String line : block.group(1).split("\n")) {
                rows++;
                row(line);
            }
        }
        Check.due("the page has rows: " + rows, rows > 30, true);
        Check.over("readme");
    }

    private static void row(String line) throws IllegalAccessException {
        String[] parts = line.split("//", 2);
        if (parts[0].trim().equals("ClayDisc x = new ClayDisc();")) {
            x = new ClayDisc();
            return;
        }
        Matcher call = CALL.matcher(parts[0]);
        String answer = "nothing";
        while (call.find()) {
            answer = ask(call.group(1), call.group(2));
        }
        Check.due("nothing but calls: " + line, CALL.matcher(parts[0]).replaceAll("").isBlank(), true);
        String told = parts.length < 2 ? "no answer" : parts[1].trim().split(":")[0];
        Check.due(line + " (answers " + answer + ")", answer.equals(told), true);
    }

    private static String ask(String name, String numbers) throws IllegalAccessException {
        String[] parts = numbers.isBlank() ? new String[0] : numbers.split(",");
        Object[] given = new Object[parts.length];
        for (int i = 0; i < parts.length; i++) {
            given[i] = Long.decode(parts[i].trim()).intValue();
        }
        for (Method m : ClayDisc.class.getMethods()) {
            if (m.getName().equals(name) && m.getParameterCount() == given.length) {
                try {
                    return String.valueOf(m.invoke(x, given));
                } catch (InvocationTargetException e) {
                    return "throws " + e.getCause().getClass().getSimpleName();
                }
            }
        }
        return "no such call";
    }
}
