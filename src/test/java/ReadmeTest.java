import java.io.IOException;
import java.lang.reflect.Field;
import java.lang.reflect.Method;
import java.lang.reflect.Modifier;
import java.nio.file.Files;
import java.nio.file.Path;
import java.util.regex.Matcher;
import java.util.regex.Pattern;

/** What README.md shows of the class is so: each row 'x.call(..); // answer: ..' is made, on one object. */
public final class ReadmeTest {
    private static final Path README = Path.of("README.md");
    private static final Pattern ROW = Pattern.compile("(?m)^x\\.(\\w+)\\(([^)]*)\\);\\s*// (\\w+): .*$");

    private static int wrong;

    private ReadmeTest() {
    }

    public static void main(String[] args) throws IOException, ReflectiveOperationException {
        String text = Files.readString(README);
        int asked = rows(text);
        check(asked > 0 && asked == text.split("(?m)^x\\.", -1).length - 1,
                "README.md has rows of calls without an answer behind them, or none");
        names(text);
        System.out.println(asked + " calls of README.md, " + wrong + " things not as due");
        if (wrong != 0) {
            System.exit(1);
        }
    }

    private static void check(boolean right, String otherwise) {
        if (!right) {
            wrong++;
            System.out.println(otherwise);
        }
    }

    private static int rows(String text) throws ReflectiveOperationException {
        OldReckoner x = new OldReckoner();
        int asked = 0;
        Matcher row = ROW.matcher(text);
        while (row.find()) {
            asked++;
            long got = answer(x, row.group(1), row.group(2));
            long want = told(row.group(3));
            check(got == want, row.group() + " answered " + got);
        }
        return asked;
    }

    private static long answer(OldReckoner x, String name, String arguments) throws ReflectiveOperationException {
        String[] told = arguments.isBlank() ? new String[0] : arguments.split(",");
        for (Method m : OldReckoner.class.getDeclaredMethods()) {
            if (m.getName().equals(name) && Modifier.isPublic(m.getModifiers())
                    && m.getParameterCount() == told.length) {
                Object[] values = new Object[told.length];
                for (int i = 0; i < told.length; i++) {
                    boolean isLong = m.getParameterTypes()[i] == long.class;
                    values[i] = isLong ? (Object) Long.valueOf(told[i].trim()) : Integer.valueOf(told[i].trim());
                }
                return (Long) m.invoke(x, values);
            }
        }
        throw new NoSuchMethodException(name + " with " + told.length + " arguments");
    }

    private static long told(String answer) throws ReflectiveOperationException {
        return Character.isDigit(answer.charAt(0)) ? Long.parseLong(answer)
                : OldReckoner.class.getField(answer).getLong(null);
    }

    private static void names(String text) {
        for (Method m : OldReckoner.class.getDeclaredMethods()) {
            check(!Modifier.isPublic(m.getModifiers()) || text.contains("`" + m.getName() + "`"),
                    "README.md does not name the call " + m.getName());
        }
        for (Field f : OldReckoner.class.getFields()) {
            check(text.contains("`" + f.getName() + "`"), "README.md does not name the constant " + f.getName());
        }
        check(text.contains(".ci/run"), "README.md does not say how its tests are run");
    }
}
