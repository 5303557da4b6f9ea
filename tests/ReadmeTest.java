import java.io.IOException;
import java.lang.reflect.Method;
import java.nio.file.Files;
import java.nio.file.Path;
import java.util.regex.Matcher;
import java.util.regex.Pattern;

// The calls that README.md shows, one behind the other on one object: each answers what stands behind it there.
// Run from the project's folder.
public final class ReadmeTest {
    private static final Pattern CALL = Pattern.compile("(?m)^x\\.(\\w+)\\((.*?)\\); *// (-?\\d+)");
    private static final int CALLS = 36;

    public static void main(String[] args) throws IOException, ReflectiveOperationException {
        String page = Files.readString(Path.of("README.md"));
        TurnedInSix x = new TurnedInSix();
        int wrong = 0;
        int calls = 0;
        Matcher call = CALL.matcher(page);
        while (call.find()) {
            calls++;
            int got = answer(x, call.group(1), call.group(2));
            if (got != Integer.parseInt(call.group(3))) {
                wrong++;
                System.out.println("x." + call.group(1) + "(" + call.group(2) + ") answered " + got + ", README.md says " + call.group(3));
            }
        }
        if (calls != CALLS || calls != page.lines().filter(line -> line.startsWith("x.")).count()) {
            wrong++;
            System.out.println(calls + " calls were read from README.md, due are " + CALLS);
        }
        System.out.println(wrong == 0 ? calls + " answers are as README.md says" : wrong + " are not as README.md says");
        if (wrong != 0) {
            System.exit(1);
        }
    }

    private static int answer(TurnedInSix x, String name, String told) throws ReflectiveOperationException {
        String[] texts = told.isEmpty() ? new String[0] : told.split(", ");
        for (Method method : TurnedInSix.class.getMethods()) {
            if (method.getName().equals(name) && method.getParameterCount() == texts.length) {
                Object[] values = new Object[texts.length];
                for (int i = 0; i < values.length; i++) {
                    boolean isLong = method.getParameterTypes()[i] == long.class;
                    values[i] = isLong ? (Object) Long.decode(texts[i].replace("L", "")) : (Object) Integer.decode(texts[i]);
                }
                return (Integer) method.invoke(x, values);
            }
        }
        throw new NoSuchMethodException(name);
    }
}
