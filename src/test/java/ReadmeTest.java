import java.io.IOException;
import java.lang.reflect.Method;
import java.lang.reflect.Modifier;
import java.nio.file.Files;
import java.nio.file.Path;
import java.util.HashMap;
import java.util.Map;
import java.util.TreeSet;
import java.util.regex.Matcher;
import java.util.regex.Pattern;

/** The calls that README.md shows: each answers, or throws, what stands behind it, and no call is left out. */
public final class ReadmeTest {
    private static final Pattern LINE = Pattern.compile(
            "(?:int (\\w+) = )?x\\.(\\w+)\\(([^)]*)\\); *// (answers|throws) (-?\\w+)(?::.*)?");
    private static final String MADE = "BumpsRiver x = new BumpsRiver();";
    private static final Check CHECK = new Check();

    private final BumpsRiver x = new BumpsRiver();
    private final Map<String, Integer> numbers = new HashMap<>();
    private final TreeSet<String> called = new TreeSet<>();

    private ReadmeTest() {
        numbers.put("NONE", BumpsRiver.NONE);
        numbers.put("ENTERING", BumpsRiver.ENTERING);
        numbers.put("HEATS", BumpsRiver.HEATS);
        numbers.put("FINAL", BumpsRiver.FINAL);
        numbers.put("OVER", BumpsRiver.OVER);
    }

    /** The third argument is README.md. */
    public static void main(String[] arguments) throws IOException {
        if (arguments.length > 2) {
            new ReadmeTest().read(Files.readString(Path.of(arguments[2])));
        } else {
            CHECK.due("README.md is told", false);
        }
        CHECK.close();
    }

    private void read(String text) {
        String[] parts = text.split("```", -1);
        CHECK.due("README.md has one block of code", 3, parts.length);
        CHECK.due("it makes an object", parts.length > 1 && parts[1].contains(MADE));
        for (String line : parts.length > 1 ? parts[1].split("\n") : new String[0]) {
            boolean isCall = line.contains("x.");
            if (isCall) {
                check(line);
            }
        }
        CHECK.due("README.md shows " + called + ", the face is " + face(), called.equals(face()));
    }

    private void check(String line) {
        Matcher words = LINE.matcher(line);
        CHECK.due("a line of another form: " + line, words.matches());
        if (!words.matches()) {
            return;
        }
        String[] given = words.group(3).split(", *");
        String want = words.group(4).equals("throws") ? words.group(5) : "" + number(words.group(5));
        String got = answer(words.group(2), number(given[0]), given.length > 1 ? number(given[1]) : 0);
        CHECK.due(line + ": it is " + got, want.equals(got));
        called.add(words.group(2));
        if (words.group(1) != null) {
            numbers.put(words.group(1), number(words.group(5)));
        }
    }

    private int number(String word) {
        if (word.isEmpty()) {
            return 0;
        }
        return numbers.containsKey(word) ? numbers.get(word) : Integer.parseInt(word);
    }

    private String answer(String method, int one, int other) {
        try {
            return "" + Calls.call(x, method, one, other);
        } catch (IllegalArgumentException | IllegalStateException | IndexOutOfBoundsException e) {
            return e.getClass().getSimpleName();
        }
    }

    private static TreeSet<String> face() {
        TreeSet<String> names = new TreeSet<>();
        for (Method method : BumpsRiver.class.getDeclaredMethods()) {
            if (Modifier.isPublic(method.getModifiers())) {
                names.add(method.getName());
            }
        }
        return names;
    }
}
