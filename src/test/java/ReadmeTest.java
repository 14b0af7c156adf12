import java.io.IOException;
import java.lang.reflect.InvocationTargetException;
import java.lang.reflect.Method;
import java.nio.file.Files;
import java.nio.file.Path;
import java.util.NoSuchElementException;
import java.util.Set;
import java.util.TreeSet;
import java.util.regex.Matcher;
import java.util.regex.Pattern;

/** Does the calls in the examples of README.md, and holds each to the answer behind it. */
public final class ReadmeTest {
    private static final Pattern CALL =
            Pattern.compile("x\\.(\\w+)\\((.*)\\); *// (throws|true|false|-?\\d+)(:.*)?");

    private final Check c = new Check();
    private final Set<String> names = new TreeSet<>();
    private MovingList x = new MovingList();
    private int calls;

    public static void main(String[] args) throws IOException {
        ReadmeTest t = new ReadmeTest();
        String readme = Files.readString(Path.of("README.md"));
        t.examples(readme);
        t.table(readme);
        t.c.end();
    }

    private void examples(String readme) {
        boolean code = false;
        for (String line : readme.split("\n")) {
            if (line.startsWith("```")) {
                code = line.equals("```java");
            } else if (code && line.startsWith("MovingList x = new MovingList();")) {
                x = new MovingList();
            } else if (code) {
                Matcher m = CALL.matcher(line);
                boolean read = m.matches();
                c.due("can be read: " + line, true, read);
                if (read) {
                    c.dueText(line, m.group(3), answer(m.group(1), m.group(2).split(", ")));
                }
            }
        }
        c.due("examples are there", true, calls > 20);
    }

    private String answer(String name, String[] args) {
        calls++;
        for (Method m : MovingList.class.getDeclaredMethods()) {
            if (m.getName().equals(name)) {
                Object[] numbers = new Object[args.length];
                for (int k = 0; k < args.length; k++) {
                    numbers[k] = Long.decode(args[k]).intValue();
                }
                return invoke(m, numbers);
            }
        }
        return "no such call";
    }

    private String invoke(Method m, Object[] numbers) {
        try {
            return String.valueOf(m.invoke(x, numbers));
        } catch (InvocationTargetException e) {
            return e.getCause() instanceof NoSuchElementException ? "throws" : e.toString();
        } catch (IllegalAccessException | IllegalArgumentException e) {
            return e.toString();
        }
    }

    /** The table of calls names each call of the face once. */
    private void table(String readme) {
        Set<String> face = new TreeSet<>();
        for (Method m : MovingList.class.getDeclaredMethods()) {
            if (java.lang.reflect.Modifier.isPublic(m.getModifiers())) {
                face.add(m.getName());
            }
        }
        for (String line : readme.split("\n")) {
            Matcher m = Pattern.compile("`(\\w+)`").matcher(line);
            while (line.startsWith("| `") && m.find()) {
                c.due(m.group(1) + " is in the table once", true, names.add(m.group(1)));
            }
        }
        c.dueText("calls in the table", face.toString(), names.toString());
    }
}
