import java.io.IOException;
import java.lang.reflect.Method;
import java.lang.reflect.Modifier;
import java.nio.file.Files;
import java.nio.file.Path;
import java.util.Set;
import java.util.TreeSet;
import java.util.regex.Matcher;
import java.util.regex.Pattern;

/** README.md names every call of the class, and the calls of its example answer what stands behind them. */
public final class ReadmeTest {
    private static final Pattern EXAMPLE = Pattern.compile("```java\n(.*?)```", Pattern.DOTALL);
    private static final Pattern START = Pattern.compile("CertPathCheck path = new CertPathCheck\\((\\d+)\\);");
    private static final Pattern CALL = Pattern.compile("path\\.(\\w+)\\((.*)\\); +// ([^ :]+)(: .+)?");

    public static void main(String[] args) throws IOException, ReflectiveOperationException {
        String readme = Files.readString(Path.of("README.md"));
        Matcher example = EXAMPLE.matcher(readme);
        Due.yes("there is an example", example.find());
        Set<String> made = new TreeSet<>();
        CertPathCheck path = null;
        for (String line : example.group(1).split("\n")) {
            Matcher start = START.matcher(line);
            if (start.matches()) {
                path = new CertPathCheck(Integer.parseInt(start.group(1)));
            } else if (!line.isEmpty()) {
                made.add(answersAsSaid(path, line));
            }
        }
        for (Method method : CertPathCheck.class.getDeclaredMethods()) {
            if (Modifier.isPublic(method.getModifiers())) {
                String name = method.getName();
                Due.yes(name + " is told", readme.contains("| `" + name + "(") || readme.contains("\n`" + name + "("));
                Due.yes(name + " is in the example", made.contains(name));
            }
        }
        Due.end();
    }

    /** Makes the call of one line of the example; answers the call's name. */
    private static String answersAsSaid(CertPathCheck path, String line) throws ReflectiveOperationException {
        Matcher call = CALL.matcher(line);
        Due.yes("a call with its answer: " + line, call.matches());
        String[] words = call.group(2).isEmpty() ? new String[0] : call.group(2).split(", ");
        Object[] values = new Object[words.length];
        Class<?>[] types = new Class<?>[words.length];
        for (int k = 0; k < words.length; k++) {
            values[k] = valueOf(words[k].replaceFirst("^CertPathCheck\\.", ""));
            types[k] = int.class;
        }
        Object answer = CertPathCheck.class.getMethod(call.group(1), types).invoke(path, values);
        Due.same(line, asNumber(answer), valueOf(call.group(3)));
        return call.group(1);
    }

    private static int asNumber(Object answer) {
        return answer instanceof Boolean ? ((Boolean) answer ? 1 : 0) : (Integer) answer;
    }

    /** The value of true, false, a number or the name of a constant. */
    private static int valueOf(String word) throws ReflectiveOperationException {
        if (word.equals("true") || word.equals("false")) {
            return word.equals("true") ? 1 : 0;
        }
        boolean constant = Character.isLetter(word.charAt(0));
        return constant ? CertPathCheck.class.getField(word).getInt(null) : Integer.decode(word);
    }
}
