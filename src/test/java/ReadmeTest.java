import java.lang.reflect.Method;
import java.lang.reflect.Modifier;
import java.nio.file.Files;
import java.nio.file.Path;
import java.util.Map;
import java.util.Set;
import java.util.TreeMap;
import java.util.TreeSet;
import java.util.regex.Matcher;
import java.util.regex.Pattern;

/** What README.md says of calls: each is made, in its order, and answers as told behind it; none of the face is left out. */
public final class ReadmeTest {
    private static final String NEW = "CamelStraws x = new CamelStraws();";
    private static final Pattern TEXT = Pattern.compile("for \\(char b : \"([^\"]*)\"\\.toCharArray\\(\\)\\) x\\.type\\((\\d), b\\);.*");
    private static final Pattern CALL = Pattern.compile("x\\.(\\w+)\\(([-0-9, ]*)\\);\\s*// (-?\\d+)(:.*)?");

    private final Map<String, Method> face = new TreeMap<>();
    private final Set<String> told = new TreeSet<>();
    private CamelStraws x;

    public static void main(String[] args) throws Exception {
        new ReadmeTest().go();
        Check.end();
    }

    private ReadmeTest() {
        for (Method m : CamelStraws.class.getDeclaredMethods()) {
            if (Modifier.isPublic(m.getModifiers())) {
                face.put(m.getName(), m);
            }
        }
    }

    private void go() throws Exception {
        boolean code = false;
        for (String line : Files.readAllLines(Path.of("README.md"))) {
            if (line.startsWith("```")) {
                code = line.equals("```java");
            } else if (code) {
                make(line);
            }
        }
        Check.holds("README.md tells all of " + face.keySet() + ", not " + told + " alone", told.equals(face.keySet()));
    }

    private void make(String line) throws Exception {
        Matcher text = TEXT.matcher(line);
        Matcher call = CALL.matcher(line);
        if (line.equals(NEW)) {
            x = new CamelStraws();
        } else if (text.matches()) {
            Check.say(x, Integer.parseInt(text.group(2)), text.group(1));
            told.add("type");
        } else if (call.matches() && face.containsKey(call.group(1))) {
            Object answer = face.get(call.group(1)).invoke(x, numbers(call.group(2)));
            Check.due("README.md: " + line, ((Number) answer).longValue(), Long.parseLong(call.group(3)));
            told.add(call.group(1));
        } else {
            Check.holds("README.md: a line of code that no test makes: " + line, false);
        }
    }

    private static Object[] numbers(String list) {
        if (list.isEmpty()) {
            return new Object[0];
        }
        String[] items = list.split(", ");
        Object[] numbers = new Object[items.length];
        for (int i = 0; i < items.length; i++) {
            numbers[i] = Integer.parseInt(items[i]);
        }
        return numbers;
    }
}
