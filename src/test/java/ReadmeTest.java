import java.io.IOException;
import java.lang.reflect.Method;
import java.lang.reflect.Modifier;
import java.nio.file.Files;
import java.nio.file.Path;
import java.util.Arrays;
import java.util.regex.Matcher;
import java.util.regex.Pattern;

/** The calls in README.md's example answer as it says, and no call of the face is missing in it. */
public final class ReadmeTest {
    private static final Check CHECK = new Check("ReadmeTest");
    private static final Pattern EXAMPLE = Pattern.compile("(?s)```java\n(.*?)```");
    private static final Pattern NEW = Pattern.compile("HourWell well = new HourWell\\(\\);");
    private static final Pattern TYPED = Pattern.compile("for \\(char c : \"(.*)\"\\.toCharArray\\(\\)\\) well\\.type\\(c\\);");
    private static final Pattern CALL = Pattern.compile("well\\.(\\w+)\\((.*?)\\); +// (-?[0-9]+).*");

    private HourWell well = new HourWell();

    public static void main(String[] args) throws IOException, ReflectiveOperationException {
        String page = Files.readString(Path.of("README.md"));
        Matcher example = EXAMPLE.matcher(page);
        CHECK.due("there is an example", example.find() ? 1 : 0, 1);
        ReadmeTest test = new ReadmeTest();
        for (String line : example.group(1).split("\n+")) test.follow(line);
        for (Method method : HourWell.class.getDeclaredMethods()) {
            boolean isPrivate = Modifier.isPrivate(method.getModifiers());
            if (!isPrivate) isThere(example.group(1), "well." + method.getName() + "(");
            if (!isPrivate) isThere(page, "`" + method.getName() + "(");
        }
        CHECK.end();
    }

    private static void isThere(String page, String words) {
        CHECK.due("README.md has " + words, page.contains(words) ? 1 : 0, 1);
    }

    private void follow(String line) throws ReflectiveOperationException {
        Matcher typed = TYPED.matcher(line);
        Matcher call = CALL.matcher(line);
        if (NEW.matcher(line).matches()) well = new HourWell();
        else if (typed.matches()) typed.group(1).chars().forEach(well::type);
        else if (call.matches()) CHECK.due(line, answer(call.group(1), call.group(2)), Long.parseLong(call.group(3)));
        else CHECK.due("a line that this test can't follow: " + line, 0, 1);
    }

    private long answer(String name, String told) throws ReflectiveOperationException {
        Object[] numbers = told.isEmpty() ? new Object[0]
            : Arrays.stream(told.split(", ")).map(ReadmeTest::number).toArray();
        Class<?>[] types = new Class<?>[numbers.length];
        Arrays.fill(types, int.class);
        return ((Number) HourWell.class.getMethod(name, types).invoke(well, numbers)).longValue();
    }

    private static Integer number(String told) {
        return told.startsWith("'") ? Integer.valueOf(told.charAt(1)) : Integer.valueOf(told);
    }
}
