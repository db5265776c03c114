import java.lang.reflect.Method;
import java.lang.reflect.Modifier;
import java.nio.file.Files;
import java.nio.file.Path;
import java.util.Arrays;
import java.util.regex.Matcher;
import java.util.regex.Pattern;

/** What README.md says of the class: its example answers so, and each call is named with its arguments. */
public final class ReadmeTest {
    private static final Pattern TEXT = Pattern.compile("String wall = \"([^\"]*)\"");
    private static final Pattern CALL = Pattern.compile("(?m)^x\\.(\\w+)\\(([-\\d, ]*)\\);\\s*// (-?\\w+):");
    private static final Pattern ROW = Pattern.compile("`(\\w+)\\(([\\w, ]*)\\)`");
    private static final Due DUE = new Due("ReadmeTest");

    public static void main(String[] args) throws Exception {
        String page = Files.readString(Path.of("README.md"));
        example(page);
        calls(page);
        DUE.end();
    }

    private static void example(String page) throws Exception {
        DUE.promise("the example");
        Matcher text = TEXT.matcher(page);
        DUE.is("there is a wall", text.find() ? 1 : 0, 1);
        DryBargains x = new DryBargains();
        Due.write(x, 0, text.group(1));
        int calls = 0;
        Matcher m = CALL.matcher(page);
        while (m.find()) {
            calls++;
            Object[] a = numbers(m.group(2));
            Method call = named(m.group(1));
            DUE.is(m.group(), ((Number) call.invoke(x, a)).longValue(), due(m.group(3)));
        }
        DUE.is("many calls were seen", calls >= 20 ? 1 : 0, 1);
    }

    private static long due(String answer) throws Exception {
        boolean number = answer.matches("-?\\d+");
        return number ? Long.parseLong(answer) : DryBargains.class.getField(answer).getInt(null);
    }

    private static Object[] numbers(String list) {
        return list.isBlank() ? new Object[0] : Arrays.stream(list.split(", ")).map(Integer::valueOf).toArray();
    }

    private static Method named(String name) {
        return Arrays.stream(DryBargains.class.getDeclaredMethods())
            .filter(m -> Modifier.isPublic(m.getModifiers()) && m.getName().equals(name)).findFirst().orElseThrow();
    }

    private static void calls(String page) {
        DUE.promise("the calls");
        String tables = page.substring(page.indexOf("### Rows, texts, walls"), page.indexOf("## Tests"));
        for (Method call : DryBargains.class.getDeclaredMethods()) {
            if (Modifier.isPublic(call.getModifiers())) {
                DUE.is(call.getName() + " is told with its arguments", arguments(tables, call.getName()), call.getParameterCount());
            }
        }
    }

    private static int arguments(String tables, String name) {
        Matcher m = ROW.matcher(tables);
        while (m.find()) {
            if (m.group(1).equals(name)) {
                return m.group(2).isEmpty() ? 0 : m.group(2).split(", ").length;
            }
        }
        return -1;
    }
}
