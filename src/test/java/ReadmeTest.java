import java.io.IOException;
import java.lang.reflect.InvocationTargetException;
import java.lang.reflect.Method;
import java.nio.file.Files;
import java.nio.file.Path;
import java.util.HashSet;
import java.util.Set;
import java.util.regex.Matcher;
import java.util.regex.Pattern;

/** Runs the calls that README.md tells, and checks that none of the face's methods is left out. */
public final class ReadmeTest {
    private static final Pattern NEW = Pattern.compile("RuleHouse house = new RuleHouse\\(\\);");
    private static final Pattern TEXT = Pattern.compile("enter\\(house, \"(.*)\"\\);");
    private static final Pattern CALL = Pattern.compile(
            "house\\.(\\w+)\\((.*)\\); +// (throws \\w+|true|false|-?\\d+)(:.*)?");

    private final Set<String> told = new HashSet<>();
    private RuleHouse house;

    public static void main(String[] args) throws IOException {
        ReadmeTest test = new ReadmeTest();
        for (String line : Files.readAllLines(Path.of("README.md"))) {
            test.run(line);
        }
        for (Method one : RuleHouse.class.getMethods()) {
            if (one.getDeclaringClass() == RuleHouse.class) {
                Checks.same("README tells a call of " + one.getName(),
                        test.told.contains(one.getName()), true);
            }
        }
        Checks.finish();
    }

    private void run(String line) {
        Matcher text = TEXT.matcher(line);
        Matcher call = CALL.matcher(line);
        if (NEW.matcher(line).matches()) {
            house = new RuleHouse();
        } else if (text.matches()) {
            Checks.same("typed: " + line, Checks.type(house, text.group(1)), true);
        } else if (call.matches()) {
            told.add(call.group(1));
            Checks.same(line, answer(call.group(1), call.group(2)), call.group(3));
        } else {
            Checks.same("no call that is not run: " + line, line.startsWith("house."), false);
        }
    }

    private String answer(String name, String arguments) {
        Method method = methodNamed(name);
        String[] texts = arguments.isEmpty() ? new String[0] : arguments.split(", *");
        Object[] values = new Object[texts.length];
        for (int i = 0; i < texts.length; i++) {
            boolean isLong = method.getParameterTypes()[i] == long.class;
            values[i] = isLong ? (Object) Long.decode(texts[i].replace("L", ""))
                    : (Object) Integer.decode(texts[i]);
        }
        try {
            return String.valueOf(method.invoke(house, values));
        } catch (InvocationTargetException e) {
            return "throws " + e.getCause().getClass().getSimpleName();
        } catch (IllegalAccessException e) {
            return "no such call";
        }
    }

    private static Method methodNamed(String name) {
        for (Method one : RuleHouse.class.getMethods()) {
            if (one.getName().equals(name)) {
                return one;
            }
        }
        throw new IllegalArgumentException(name);
    }
}
