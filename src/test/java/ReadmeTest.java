import java.io.IOException;
import java.lang.reflect.InvocationTargetException;
import java.lang.reflect.Method;
import java.lang.reflect.Modifier;
import java.nio.file.Files;
import java.nio.file.Path;
import java.util.Set;
import java.util.TreeSet;
import java.util.regex.Matcher;
import java.util.regex.Pattern;

/** Makes the calls of README.md, one behind the other, and compares their answers with those that stand there. */
public final class ReadmeTest {
    private static final Check CHECK = new Check();
    private static final Pattern CALL = Pattern.compile("spell\\.(\\w+)\\((.*)\\); // (\\S+)");
    private static final Pattern PUT = Pattern.compile("put\\(spell, \"(.*)\"\\);");

    public static void main(String[] args) throws IOException {
        ShadowSpell spell = null;
        Set<String> called = new TreeSet<>();
        for (String line : Files.readAllLines(Path.of("README.md"))) {
            Matcher call = CALL.matcher(line);
            Matcher put = PUT.matcher(line);
            if (line.equals("ShadowSpell spell = new ShadowSpell();")) {
                spell = new ShadowSpell();
            } else if (put.matches()) {
                Texts.put(spell, put.group(1));
            } else if (call.matches()) {
                called.add(call.group(1));
                CHECK.dueText(line, call.group(3), answer(spell, call.group(1), call.group(2)));
            } else {
                CHECK.due("is read: " + line, false, line.startsWith("spell.") || line.startsWith("put("));
            }
        }
        for (Method method : ShadowSpell.class.getDeclaredMethods()) {
            if (Modifier.isPublic(method.getModifiers())) {
                CHECK.due("README.md calls " + method.getName(), true, called.contains(method.getName()));
            }
        }
        CHECK.end();
    }

    private static String answer(ShadowSpell spell, String name, String told) {
        String[] parts = told.isEmpty() ? new String[0] : told.split(", ");
        Object[] values = new Object[parts.length];
        for (int i = 0; i < parts.length; i++) {
            boolean isTruth = parts[i].equals("true") || parts[i].equals("false");
            values[i] = isTruth ? (Object) Boolean.valueOf(parts[i]) : (Object) Integer.decode(parts[i]);
        }
        for (Method method : ShadowSpell.class.getDeclaredMethods()) {
            if (method.getName().equals(name)) {
                return answer(spell, method, values);
            }
        }
        return "that there is no such call";
    }

    private static String answer(ShadowSpell spell, Method method, Object[] values) {
        try {
            return String.valueOf(method.invoke(spell, values));
        } catch (InvocationTargetException e) {
            return e.getCause().getClass().getSimpleName();
        } catch (IllegalAccessException e) {
            throw new IllegalStateException(e);
        }
    }
}
