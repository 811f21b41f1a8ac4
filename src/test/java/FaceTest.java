import java.io.IOException;
import java.lang.reflect.Constructor;
import java.lang.reflect.Field;
import java.lang.reflect.Method;
import java.lang.reflect.Modifier;
import java.nio.file.Files;
import java.nio.file.Path;
import java.util.Set;
import java.util.TreeSet;
import java.util.regex.Matcher;
import java.util.regex.Pattern;

/** The class has just the document's face, and its source none of the words that LANGUAGE.md rules out. */
public final class FaceTest {
    private static final Due DUE = new Due();
    private static final String[] METHODS = {
        "int way int int int int", "int soil int", "int paper int int int int int", "int paperTold int int",
        "int allows int int int", "int forge int int", "int fall int", "long histories", "long at int int",
        "long both int int int int", "int history int int", "int feed int long", "int text", "int law int int int",
        "int lawOf int int", "long says int int int int", "long given int", "long claim int", "int judge",
        "long judged int int", "int changed int", "long worst int int", "int question", "long worstOfTwo int int",
        "int firstOfTwo", "int sherd int int", "int set int int", "int joined int int", "int row int",
        "int record int int", "int same int int int", "int things int", "int count int", "int sheet int int int",
        "int cell int int int", "int copy int int int int int", "int papers int int int int", "int taken int int"};
    private static final String[] RULED_OUT = {
        "throw", "throws", "try", "catch", "synchronized", "assert", "protected", "package", "->", "::", "Exact",
        "System.out", "System.nano", "System.current", "Random", "Thread", "hashCode", "toString", "native"};

    public static void main(String[] args) throws IOException {
        face();
        sizes();
        source(Files.readString(Path.of("src/main/java/VaseCourt.java")));
        DUE.end();
    }

    private static void face() {
        Class<?> c = VaseCourt.class;
        DUE.is("public final", c.getModifiers(), Modifier.PUBLIC | Modifier.FINAL);
        Set<String> due = new TreeSet<>(Set.of(METHODS));
        Set<String> names = new TreeSet<>();
        for (String method : METHODS) names.add(method.split(" ")[1]);
        for (Method method : c.getDeclaredMethods()) {
            StringBuilder told = new StringBuilder(method.getReturnType() + " " + method.getName());
            for (Class<?> type : method.getParameterTypes()) told.append(' ').append(type);
            boolean isPublic = method.getModifiers() == Modifier.PUBLIC;
            boolean isPrivate = Modifier.isPrivate(method.getModifiers());
            DUE.is(told + " is public or private", isPublic || isPrivate ? 1 : 0, 1);
            if (isPublic) DUE.is(told + " is of the face", due.remove(told.toString()) ? 1 : 0, 1);
            else DUE.is(told + " bears a public name", names.contains(method.getName()) ? 1 : 0, 0);
        }
        DUE.is("methods that are not there " + due, due.size(), 0);
        for (Constructor<?> made : c.getDeclaredConstructors()) {
            DUE.is("constructor " + made, made.toString().equals("public VaseCourt(int)") ? 1 : 0, 1);
        }
        Set<String> constants = new TreeSet<>(Set.of("NONE", "BAD", "STATE", "FULL", "NO"));
        for (Field field : c.getDeclaredFields()) {
            boolean isConstant = constants.contains(field.getName());
            DUE.is("public " + field.getName(), Modifier.isPublic(field.getModifiers()) ? 1 : 0, isConstant ? 1 : 0);
            if (!Modifier.isStatic(field.getModifiers())) continue;
            DUE.is("final " + field.getName(), Modifier.isFinal(field.getModifiers()) ? 1 : 0, 1);
        }
        DUE.is("NONE", VaseCourt.NONE, -1);
        DUE.is("BAD", VaseCourt.BAD, -2);
        DUE.is("STATE", VaseCourt.STATE, -3);
        DUE.is("FULL", VaseCourt.FULL, -4);
        DUE.is("NO", VaseCourt.NO, -4611686018427387904L);
        for (Class<?> inside : c.getDeclaredClasses()) {
            DUE.is("static " + inside, Modifier.isStatic(inside.getModifiers()) ? 1 : 0, 1);
        }
    }

    /** LANGUAGE.md 1 and 11: names, parameters, fields and classes; and fields that are for ever are final. */
    private static void sizes() {
        Set<String> names = new TreeSet<>();
        for (String method : METHODS) names.add(method.split(" ")[1]);
        Class<?>[] inside = VaseCourt.class.getDeclaredClasses();
        DUE.is("more than twelve classes", inside.length + 1 > 12 ? 1 : 0, 0);
        for (Class<?> c : inside) {
            DUE.is("a class inside of " + c, c.getDeclaredClasses().length, 0);
            int fields = 0;
            for (Field field : c.getDeclaredFields()) {
                boolean isStatic = Modifier.isStatic(field.getModifiers());
                if (!isStatic) fields++;
                else DUE.is("final " + field, Modifier.isFinal(field.getModifiers()) ? 1 : 0, 1);
                DUE.is("public " + field, Modifier.isPublic(field.getModifiers()) ? 1 : 0, 0);
            }
            DUE.is("more than twenty fields in " + c, fields > 20 ? 1 : 0, 0);
            for (Method method : c.getDeclaredMethods()) {
                DUE.is(method + " bears a public name", names.contains(method.getName()) ? 1 : 0, 0);
                DUE.is(method + " takes more than seven", method.getParameterCount() > 7 ? 1 : 0, 0);
            }
        }
    }

    private static void source(String text) {
        for (int k = 0; k < text.length(); k++) {
            if (text.charAt(k) > 127) DUE.is("the source has a sign above 127 at " + k, text.charAt(k), 127);
        }
        String code = text.replaceAll("(?s)/\\*.*?\\*/", "").replaceAll("//[^\n]*", "");
        for (String word : RULED_OUT) {
            Matcher m = Pattern.compile("(?<![A-Za-z])" + Pattern.quote(word) + "(?![A-Za-z])").matcher(code);
            DUE.is("the source has " + word, m.find() ? 1 : 0, 0);
        }
        Matcher imports = Pattern.compile("import ([^;]*);").matcher(code);
        while (imports.find()) DUE.is("import " + imports.group(1), imports.group(1).equals("java.util.Arrays") ? 1 : 0, 1);
    }
}
