import java.io.IOException;
import java.lang.reflect.Method;
import java.lang.reflect.Modifier;
import java.nio.file.Files;
import java.nio.file.Path;
import java.util.regex.Matcher;
import java.util.regex.Pattern;

/** README.md's example answers as it says, and the page names each call and what each answer below 0 means. */
public final class ReadmeTest {
    private static final Pattern CALL = Pattern.compile("x\\.(\\w+)\\(([^)]*)\\);\\s*// (-?\\d+|[A-Z]+)\\b.*");
    private static int wrong = 0;
    private static int asked = 0;

    public static void main(String[] args) throws Exception {
        String page = Files.readString(Path.of("README.md"));
        example(page.substring(page.indexOf("```java\n") + 8, page.indexOf("\n```\n")));
        names(page);
        System.out.println(asked + " answers of README.md asked for, " + wrong + " wrong");
        if (wrong != 0) {
            System.exit(1);
        }
    }

    private static void fail(String what) {
        wrong++;
        System.out.println(what);
    }

    private static void example(String code) throws Exception {
        PaintersAtWall x = null;
        for (String line : code.split("\n")) {
            Matcher m = CALL.matcher(line);
            if (line.equals("PaintersAtWall x = new PaintersAtWall();")) {
                x = new PaintersAtWall();
            } else if (x == null || !m.matches()) {
                fail("no call with its answer: " + line);
            } else {
                asked++;
                long got = answer(x, m.group(1), m.group(2)), due = told(m.group(3));
                if (got != due) {
                    fail(line.trim() + " answered " + got);
                }
            }
        }
        if (asked == 0) {
            fail("README.md has no example");
        }
    }

    private static long answer(PaintersAtWall x, String name, String arguments) throws Exception {
        for (Method m : PaintersAtWall.class.getMethods()) {
            if (m.getName().equals(name)) {
                String[] parts = arguments.isBlank() ? new String[0] : arguments.split(",");
                Object[] values = new Object[parts.length];
                for (int i = 0; i < parts.length; i++) {
                    long value = Long.decode(parts[i].trim().replaceFirst("L$", ""));
                    values[i] = m.getParameterTypes()[i] == int.class ? (Object) (int) value : (Object) value;
                }
                return ((Number) m.invoke(x, values)).longValue();
            }
        }
        throw new IOException("no call " + name);
    }

    private static long told(String answer) throws Exception {
        boolean number = answer.matches("-?\\d+");
        return number ? Long.parseLong(answer) : PaintersAtWall.class.getField(answer).getInt(null);
    }

    private static void names(String page) throws Exception {
        for (Method m : PaintersAtWall.class.getDeclaredMethods()) {
            if (Modifier.isPublic(m.getModifiers()) && !page.contains("`" + m.getName() + "`")) {
                fail("README.md does not name " + m.getName());
            }
        }
        for (String constant : new String[] {"BAD", "NO", "FULL", "NONE"}) {
            if (!page.contains("| `" + constant + "` (" + told(constant) + ") |")) {
                fail("README.md does not tell what " + constant + " means");
            }
        }
    }
}
