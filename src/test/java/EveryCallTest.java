import java.lang.reflect.InvocationTargetException;
import java.lang.reflect.Method;
import java.lang.reflect.Modifier;
import java.util.ArrayList;
import java.util.Arrays;
import java.util.Comparator;
import java.util.List;
import java.util.Random;

/**
 * Every method of the face with numbers at, beside and far from every edge that the document names, in runs by
 * chance of up to 512 calls: none throws, and each answers as the model does.
 */
public final class EveryCallTest {
    private static final int RUNS = 300, CALLS = 512;
    private static final int[] EDGES = {Integer.MIN_VALUE, Integer.MIN_VALUE + 1, -32769, -32768, -129, -128, -3, -2, -1, 0, 1, 2, 3, 4,
        5, 6, 7, 8, 9, 10, 15, 16, 17, 22, 23, 24, 25, 38, 39, 40, 59, 60, 61, 97, 98, 99, 100, 104, 111, 115, 121, 127, 128, 255, 256, 257,
        32767, 32768, 65535, 65536, Integer.MAX_VALUE - 1, Integer.MAX_VALUE};
    private static final String SIGNS = "yos;yos;123456789abcdefghabcdefghijklmnopqrstuvwx";

    private final Random random;
    private final CamelStraws x = new CamelStraws();
    private final Model model = new Model();
    private int calls;

    private EveryCallTest(int seed) {
        random = new Random(seed);
    }

    public static void main(String[] args) throws Exception {
        List<Method> face = new ArrayList<>();
        for (Method m : CamelStraws.class.getDeclaredMethods()) {
            if (Modifier.isPublic(m.getModifiers())) {
                face.add(m);
            }
        }
        Check.due("methods of the face", face.size(), 35);
        face.sort(Comparator.comparing(Method::getName));
        for (int seed = 0; seed < RUNS && Check.wrongSoFar() == 0; seed++) {
            new EveryCallTest(seed).go(face, "run " + seed + ": ");
        }
        Check.end();
    }

    private void go(List<Method> face, String run) throws Exception {
        say(0, texts("yos", "123456789", null, 8));
        say(1, texts("abcdefgh", "123456789", "abcdefghijklmnopqrstuvwx", 10));
        // digests are dear, those of the model above all: some in each run
        while (calls < CALLS && Check.wrongSoFar() == 0) {
            Method m = face.get(random.nextInt(face.size()));
            boolean tooOften = m.getName().equals("digest") || m.getName().equals("wipe") || m.getName().equals("chance");
            if (!tooOften || random.nextInt(20) == 0) {
                call(m, numbersFor(m), run);
            }
        }
    }

    /** Some items of a text that is well, each a sign of one, of two, of three. */
    private String texts(String one, String two, String three, int most) {
        StringBuilder all = new StringBuilder();
        int n = random.nextInt(most + 1);
        for (int i = 0; i < n; i++) {
            all.append(i > 0 ? ";" : "").append(one.charAt(random.nextInt(one.length()))).append(two.charAt(random.nextInt(two.length())));
            if (three != null) {
                all.append(three.charAt(random.nextInt(three.length())));
            }
        }
        return all.toString();
    }

    private void say(int text, String bytes) {
        for (int i = 0; i < bytes.length(); i++) {
            Check.due("type", x.type(text, bytes.charAt(i)), model.type(text, bytes.charAt(i)));
            calls++;
        }
    }

    private Object[] numbersFor(Method m) {
        Object[] numbers = new Object[m.getParameterCount()];
        for (int i = 0; i < numbers.length; i++) {
            numbers[i] = random.nextInt(5) == 0 ? EDGES[random.nextInt(EDGES.length)] : random.nextInt(random.nextInt(24) + 1);
        }
        boolean signOfAText = m.getName().equals("type") && random.nextInt(4) > 0;
        if (signOfAText) {
            numbers[1] = (int) SIGNS.charAt(random.nextInt(SIGNS.length()));
        }
        return numbers;
    }

    private void call(Method m, Object[] numbers, String run) throws Exception {
        String told = run + m.getName() + Arrays.toString(numbers);
        calls++;
        try {
            long got = ((Number) m.invoke(x, numbers)).longValue();
            Method due = Model.class.getDeclaredMethod(m.getName(), m.getParameterTypes());
            Check.due(told, got, ((Number) due.invoke(model, numbers)).longValue());
        } catch (InvocationTargetException e) {
            Check.holds(told + " threw " + e.getCause(), false);
        }
    }
}
