import java.io.IOException;
import java.lang.reflect.Method;
import java.nio.file.Files;
import java.nio.file.Path;
import java.util.TreeSet;
import java.util.regex.Matcher;
import java.util.regex.Pattern;

/** What README.md says of the class: each "`call(..)` is N", in the page's order, on the table that it shows. */
public final class ReadmeTest {
    private static final Due DUE = new Due();
    private static final Pattern TABLE = Pattern.compile("(?s)```text\n(table .*?)```");
    private static final Pattern SAID = Pattern.compile("`([a-z]+)\\(([-0-9, ]*)\\)`\\s+is\\s+(-?[0-9]+)");
    /** The others (feed, end, table, size, fault, figure) are told in other words, or need none. */
    private static final int CALLS_SAID = 40;

    public static void main(String[] args) throws IOException, ReflectiveOperationException {
        String page = Files.readString(Path.of("README.md"));
        firstExample();
        Matcher table = TABLE.matcher(page);
        DUE.is("the page shows a table", table.find() ? 1 : 0, 1);
        said(page.substring(table.end()), Due.of(table.group(1)));
        fullTape();
        faults();
        DUE.end("ReadmeTest");
    }

    private static void firstExample() {
        UpAndDown x = new UpAndDown();
        DUE.is("feed", x.feed(0x7461626c, 0x65206261, 0x73652037, 0x206c6f6e, 0x6720323b), 20);
        DUE.is("table", x.table(), 1);
        DUE.is("size", x.size(), 49);
    }

    private static void said(String page, UpAndDown object) throws ReflectiveOperationException {
        Matcher matcher = SAID.matcher(page);
        TreeSet<String> names = new TreeSet<>();
        int calls = 0;
        while (matcher.find()) {
            String name = matcher.group(1);
            String call = name + "(" + matcher.group(2) + ")";
            DUE.is(call, call(object, name, matcher.group(2)), Long.parseLong(matcher.group(3)));
            names.add(name);
            calls++;
        }
        DUE.is("calls with an answer: " + names, names.size(), CALLS_SAID);
        DUE.is("within the calls of one object", calls <= 500 ? 1 : 0, 1);
    }

    private static long call(UpAndDown object, String name, String numbers) throws ReflectiveOperationException {
        String[] given = numbers.isEmpty() ? new String[0] : numbers.split(", ");
        for (Method method : UpAndDown.class.getMethods()) {
            if (method.getName().equals(name) && method.getParameterCount() == given.length) {
                Object[] all = new Object[given.length];
                for (int i = 0; i < all.length; i++) {
                    all[i] = number(method.getParameterTypes()[i], given[i]);
                }
                return ((Number) method.invoke(object, all)).longValue();
            }
        }
        throw new IllegalStateException("no call " + name + "(" + numbers + ")");
    }

    private static Object number(Class<?> type, String text) {
        if (type == long.class) {
            return Long.valueOf(text);
        }
        return Integer.valueOf(text);
    }

    private static void fullTape() {
        UpAndDown x = new UpAndDown();
        for (int i = 1; i <= 40; i++) {
            DUE.is("feed " + i, x.feed(0, 0, 0, 0, 0), 20 * i);
        }
        DUE.is("feed of a full tape", x.feed(0, 0, 0, 0, 0), -1);
        DUE.is("bytes of 0 are a fault", x.table(), -4);
        DUE.is("its sort", x.fault(0), 1);
        DUE.is("its place", x.fault(1), 0);
        DUE.is("emptied", x.count(6), 0);
    }

    private static void faults() {
        fault("table base 10 long 4; doing up down", 1, 35);
        fault("table base 10 long 5;", 2, 19);
        fault("table base 10 long 4; doing up; doing down;", 2, 32);
        fault("table base 10 long 4; doing up up up up up up up up up up up up up;", 3, 64);
    }

    private static void fault(String text, int sort, int place) {
        UpAndDown x = new UpAndDown();
        DUE.is(text, Due.table(x, text), -4);
        DUE.is(text + " fault", x.fault(0), sort);
        DUE.is(text + " place", x.fault(1), place);
    }
}
