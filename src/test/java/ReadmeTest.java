import java.lang.reflect.Method;
import java.nio.charset.StandardCharsets;
import java.nio.file.Files;
import java.nio.file.Path;
import java.util.Set;
import java.util.TreeSet;
import java.util.regex.Matcher;
import java.util.regex.Pattern;

/** The examples of README.md answer as that page says. */
public final class ReadmeTest {
    private static final Due due = new Due("ReadmeTest");
    private static final Pattern EXAMPLES = Pattern.compile("(?s)```java\n(.*?)```");
    private static final Pattern CALL = Pattern.compile("x\\.(\\w+)\\(([-\\d, ]*)\\); +// (-?\\d+)(: .*)?");
    private static final Pattern FED = Pattern.compile("for \\(char c : \"(.*)\"\\.toCharArray\\(\\)\\) x\\.feed\\(c\\);");
    private static final Set<String> asked = new TreeSet<>();
    private static StoneInLentils x = null;

    public static void main(String[] args) throws Exception {
        String page = Files.readString(Path.of(System.getProperty("readme", "README.md")), StandardCharsets.UTF_8);
        Matcher examples = EXAMPLES.matcher(page);
        while (examples.find()) {
            x = null;
            for (String line : examples.group(1).split("\n")) ask(line);
        }
        due.holds("more than half of the calls are shown: " + asked, asked.size() > 20);
        due.end();
    }

    private static void ask(String line) throws Exception {
        Matcher call = CALL.matcher(line);
        Matcher fed = FED.matcher(line);
        if (line.equals("StoneInLentils x = new StoneInLentils();")) x = new StoneInLentils();
        else if (x != null && call.matches()) due.is(line, answer(call.group(1), call.group(2)), Long.parseLong(call.group(3)));
        else if (x != null && fed.matches()) for (char c : fed.group(1).toCharArray()) x.feed(c);
        else due.holds("an example can be read: " + line, false);
    }

    private static long answer(String name, String told) throws Exception {
        String[] numbers = told.isEmpty() ? new String[0] : told.split(", ");
        for (Method m : StoneInLentils.class.getDeclaredMethods()) {
            if (!m.getName().equals(name) || m.getParameterCount() != numbers.length) continue;
            Object[] given = new Object[numbers.length];
            for (int i = 0; i < given.length; i++) {
                if (m.getParameterTypes()[i] == long.class) given[i] = Long.parseLong(numbers[i]);
                else given[i] = Integer.parseInt(numbers[i]);
            }
            asked.add(name);
            return ((Number) m.invoke(x, given)).longValue();
        }
        due.holds("there is a call " + name + " of " + numbers.length, false);
        return Due.NONE;
    }
}
