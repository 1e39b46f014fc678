import java.io.IOException;
import java.lang.reflect.InvocationTargetException;
import java.lang.reflect.Method;
import java.nio.file.Files;
import java.nio.file.Path;
import java.util.HashSet;
import java.util.Set;
import java.util.regex.Matcher;
import java.util.regex.Pattern;

/** README.md is right: its text can be read, its calls answer what stands behind them, and it names each call. */
final class ReadmeTest extends Answers {
    private static final Pattern ROW = Pattern.compile("town\\.(\\w+)\\(([^)]*)\\); *// (-?\\d+|true|false)?.*");

    private ReadmeTest() {
    }

    public static void main(String[] args) throws IOException, ReflectiveOperationException {
        promise = "README.md";
        String page = Files.readString(Path.of("README.md"));
        tape(page);
        String text = between(page, "```text\n", "```");
        StiltTown town = town(text);
        String calls = page.substring(page.indexOf(text) + text.length());
        int rows = 0;
        for (String row : between(calls, "```java\n", "```").split("\n")) {
            call(town, row);
            rows++;
        }
        due("rows of calls", rows, 29);
        named(page);
        end();
    }

    private static String between(String page, String front, String rear) {
        int from = page.indexOf(front) + front.length();
        return page.substring(from, page.indexOf(rear, from));
    }

    private static void tape(String page) {
        due("the call is there", page.contains("feed(0x63726577, 0x7320373b, 0x6a61636b, 0x20383b20, 0x20202020)"), true);
        StiltTown town = new StiltTown();
        due("feed", town.feed(0x63726577, 0x7320373b, 0x6a61636b, 0x20383b20, 0x20202020), 20);
        due("back", town.back(4), 16);
        due("read", town.read(), 0);
        due("crews", town.count(5), 7);
        due("jack", town.count(6), 8);
    }

    private static void call(StiltTown town, String row) throws IllegalAccessException, InvocationTargetException {
        Matcher matcher = ROW.matcher(row);
        due("a call: " + row, matcher.matches(), true);
        if (!matcher.matches()) {
            return;
        }
        String[] told = matcher.group(2).isEmpty() ? new String[0] : matcher.group(2).split(", ");
        for (Method method : StiltTown.class.getMethods()) {
            if (method.getName().equals(matcher.group(1)) && method.getParameterCount() == told.length) {
                Object[] arguments = new Object[told.length];
                for (int i = 0; i < told.length; i++) {
                    boolean flag = method.getParameterTypes()[i] == boolean.class;
                    arguments[i] = flag ? (Object) Boolean.valueOf(told[i]) : Integer.valueOf(told[i]);
                }
                String answer = String.valueOf(method.invoke(town, arguments));
                due(row + " " + answer, matcher.group(3) == null || answer.equals(matcher.group(3)), true);
                return;
            }
        }
        due("no such call: " + row, true, false);
    }

    private static void named(String page) {
        Set<String> names = new HashSet<>();
        for (Method method : StiltTown.class.getDeclaredMethods()) {
            if (java.lang.reflect.Modifier.isPublic(method.getModifiers())) {
                names.add(method.getName());
            }
        }
        due("43 calls", names.size(), 43);
        for (String name : names) {
            due(name + " is named", page.contains("`" + name + "`"), true);
        }
    }
}
