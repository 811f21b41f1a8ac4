import java.io.IOException;
import java.lang.reflect.Method;
import java.lang.reflect.Modifier;
import java.nio.file.Files;
import java.nio.file.Path;
import java.util.Set;
import java.util.TreeSet;
import java.util.regex.Matcher;
import java.util.regex.Pattern;

/** Each call that README.md shows answers the number behind it, and README.md shows each call of the face. */
public final class ReadmeTest {
    private static final Due DUE = new Due();
    private static final Pattern MADE = Pattern.compile("VaseCourt court = new VaseCourt\\((\\d+)\\);.*");
    private static final Pattern CALL = Pattern.compile("court\\.(\\w+)\\(([^)]*)\\);\\s+// (-?\\w+)(:.*)?");

    public static void main(String[] args) throws ReflectiveOperationException, IOException {
        Set<String> unseen = new TreeSet<>();
        for (Method method : VaseCourt.class.getDeclaredMethods()) {
            if (Modifier.isPublic(method.getModifiers())) unseen.add(method.getName());
        }
        VaseCourt court = null;
        for (String line : Files.readAllLines(Path.of("README.md"))) {
            Matcher made = MADE.matcher(line);
            Matcher call = CALL.matcher(line);
            if (made.matches()) court = new VaseCourt(Integer.parseInt(made.group(1)));
            if (line.startsWith("court.")) DUE.is(line + " has the form of a call", call.matches() ? 1 : 0, 1);
            if (!call.matches()) continue;
            unseen.remove(call.group(1));
            DUE.is(line, answer(court, call.group(1), call.group(2)), told(call.group(3)));
        }
        DUE.is("calls that README.md does not show: " + unseen, unseen.size(), 0);
        DUE.end();
    }

    private static long answer(VaseCourt court, String name, String numbers)
            throws ReflectiveOperationException {
        for (Method method : VaseCourt.class.getDeclaredMethods()) {
            if (!method.getName().equals(name)) continue;
            Class<?>[] types = method.getParameterTypes();
            String[] words = numbers.isEmpty() ? new String[0] : numbers.split(", ");
            Object[] given = new Object[types.length];
            for (int k = 0; k < types.length; k++) {
                long number = Long.decode(words[k].replace("L", ""));
                if (types[k] == int.class) given[k] = (int) number;
                else given[k] = number;
            }
            return ((Number) method.invoke(court, given)).longValue();
        }
        throw new NoSuchMethodException(name);
    }

    private static long told(String word) {
        switch (word) {
            case "NONE": return VaseCourt.NONE;
            case "BAD": return VaseCourt.BAD;
            case "FULL": return VaseCourt.FULL;
            case "NO": return VaseCourt.NO;
            default: return Long.parseLong(word);
        }
    }
}
