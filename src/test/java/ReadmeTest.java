import java.io.IOException;
import java.lang.reflect.InvocationTargetException;
import java.lang.reflect.Method;
import java.lang.reflect.Modifier;
import java.nio.file.Files;
import java.nio.file.Path;
import java.util.HashSet;
import java.util.Set;
import java.util.regex.Matcher;
import java.util.regex.Pattern;

/** The calls that README.md shows, each with the answer that its comment begins with. */
public final class ReadmeTest {
    private static final Pattern CALL = Pattern.compile("    x\\.(\\w+)\\(([^)]*)\\);\\s*// (-?\\w+).*");
    private static final int FEWEST = 20;

    public static void main(String[] args) throws IOException, ReflectiveOperationException {
        String readme = Files.readString(Path.of("README.md"));
        int wrong = namesMissing(readme);
        int calls = 0;
        TwinSlots x = new TwinSlots();
        for (String line : readme.split("\n")) {
            Matcher call = CALL.matcher(line);
            if (call.matches()) {
                calls++;
                wrong += isAsDue(x, call) ? 0 : 1;
            } else if (line.startsWith("    x.")) {
                wrong++;
                System.out.println("no answer is told: " + line);
            }
        }
        System.out.println("ReadmeTest: " + calls + " calls, " + wrong + " wrong");
        if (wrong > 0 || calls < FEWEST) {
            System.exit(1);
        }
    }

    private static boolean isAsDue(TwinSlots x, Matcher call) throws ReflectiveOperationException {
        Method method = methodOf(call.group(1));
        String[] told = call.group(2).isEmpty() ? new String[0] : call.group(2).split(", ");
        Object[] values = new Object[told.length];
        for (int k = 0; k < told.length; k++) {
            values[k] = valueOf(told[k]);
        }
        String got = answerOf(method, x, values);
        if (!got.equals(call.group(3))) {
            System.out.println(call.group().trim() + " -- answered " + got);
            return false;
        }
        return true;
    }

    private static String answerOf(Method method, TwinSlots x, Object[] values) throws IllegalAccessException {
        try {
            return String.valueOf(method.invoke(x, values));
        } catch (InvocationTargetException e) {
            return "a throw: " + e.getCause();
        }
    }

    private static Object valueOf(String told) {
        if (told.equals("true") || told.equals("false")) {
            return Boolean.valueOf(told);
        }
        return told.equals("TwinSlots.NONE") ? Integer.valueOf(TwinSlots.NONE) : Integer.decode(told);
    }

    private static Method methodOf(String name) throws NoSuchMethodException {
        for (Method method : TwinSlots.class.getDeclaredMethods()) {
            if (method.getName().equals(name)) {
                return method;
            }
        }
        throw new NoSuchMethodException(name);
    }

    /** Each public method has its name in README.md. */
    private static int namesMissing(String readme) {
        Set<String> words = new HashSet<>();
        Matcher word = Pattern.compile("`(\\w+)").matcher(readme);
        while (word.find()) {
            words.add(word.group(1));
        }
        int missing = 0;
        for (Method method : TwinSlots.class.getDeclaredMethods()) {
            if (Modifier.isPublic(method.getModifiers()) && !words.contains(method.getName())) {
                missing++;
                System.out.println("README.md does not name " + method.getName());
            }
        }
        return missing;
    }
}
