import java.lang.reflect.Constructor;
import java.lang.reflect.Field;
import java.lang.reflect.Method;
import java.lang.reflect.Modifier;
import java.nio.file.Files;
import java.nio.file.Path;
import java.util.ArrayList;
import java.util.Arrays;
import java.util.Collections;
import java.util.List;
import java.util.Set;
import java.util.TreeSet;
import java.util.regex.Matcher;
import java.util.regex.Pattern;

/** The public face of the document, and those rules of LANGUAGE.md that can be seen without a parser. */
public final class FaceTest {
    private static final String[] FACE = {
        "int type(int, int)", "int wipe(int)", "int undo(int)", "int fault(int)", "int camel(int, int)", "int bale(int, int)",
        "int straw(int, int)", "int back()", "int read(int)", "int at(int, int, int)", "int through()", "int lost()",
        "int first(int)", "int best()", "int whole()", "int tired()", "int last(int, int)", "int bear(int, int)",
        "int when(int, int)", "int spare(int)", "int seen(int, int, int)", "int forget()", "int never()", "int was(int, int)",
        "int ask(int)", "long chance(int, int, int)", "int years(int, int, int)", "int sheet(int, int, int)", "int lose(int)",
        "int put(int, int, int, int)", "int get(int, int, int)", "int copy(int, int, int, int, int)", "int write(int, int)",
        "int count(int)", "long digest()"};

    private static final String[] FORBIDDEN = {"throw", "throws", "try", "catch", "finally", "synchronized", "assert",
        "protected", "native", "transient", "volatile", "var", "Object", "Thread", "hashCode", "Random", "nanoTime",
        "currentTimeMillis", "NaN", "Exact"};

    public static void main(String[] args) throws Exception {
        face();
        classesInside();
        source();
        Check.end();
    }

    private static void face() {
        Class<?> c = CamelStraws.class;
        Check.holds("public and final", Modifier.isPublic(c.getModifiers()) && Modifier.isFinal(c.getModifiers()));
        List<String> heads = new ArrayList<>();
        Set<String> publicNames = new TreeSet<>();
        for (Method m : c.getDeclaredMethods()) {
            if (Modifier.isPublic(m.getModifiers())) {
                String parameters = Arrays.toString(Arrays.stream(m.getParameterTypes()).map(Class::getName).toArray());
                heads.add(m.getReturnType() + " " + m.getName() + "(" + parameters.substring(1, parameters.length() - 1) + ")");
                publicNames.add(m.getName());
            } else {
                Check.holds(m.getName() + " is private", Modifier.isPrivate(m.getModifiers()));
            }
        }
        List<String> want = new ArrayList<>(List.of(FACE));
        Collections.sort(heads);
        Collections.sort(want);
        Check.holds("the methods are " + want + ", not " + heads, heads.equals(want));
        for (Class<?> inside : c.getDeclaredClasses()) {
            for (Method m : inside.getDeclaredMethods()) {
                Check.holds(inside.getSimpleName() + "." + m.getName() + " bears no public name", !publicNames.contains(m.getName()));
            }
        }
        Constructor<?>[] constructors = c.getDeclaredConstructors();
        Check.holds("one public constructor", constructors.length == 1 && Modifier.isPublic(constructors[0].getModifiers())
                && constructors[0].getParameterCount() == 0);
        Set<String> constants = new TreeSet<>();
        for (Field f : c.getDeclaredFields()) {
            if (Modifier.isPublic(f.getModifiers())) {
                constants.add(f.getName());
            } else {
                Check.holds(f.getName() + " is private", Modifier.isPrivate(f.getModifiers()));
            }
            Check.holds(f.getName() + " is final if static", !Modifier.isStatic(f.getModifiers()) || Modifier.isFinal(f.getModifiers()));
        }
        Check.holds("the constants", constants.equals(Set.of("NONE", "BAD", "NOT", "FULL")));
        Check.due("NONE", CamelStraws.NONE, -1);
        Check.due("BAD", CamelStraws.BAD, -2);
        Check.due("NOT", CamelStraws.NOT, -3);
        Check.due("FULL", CamelStraws.FULL, -4);
    }

    private static void classesInside() {
        Class<?>[] inside = CamelStraws.class.getDeclaredClasses();
        Check.holds("at most twelve classes", inside.length + 1 <= 12);
        for (Class<?> c : inside) {
            Check.holds(c.getSimpleName() + " is static", Modifier.isStatic(c.getModifiers()));
            Check.holds(c.getSimpleName() + " is not public", !Modifier.isPublic(c.getModifiers()));
            long fields = Arrays.stream(c.getDeclaredFields()).filter(f -> !Modifier.isStatic(f.getModifiers())).count();
            Check.holds(c.getSimpleName() + " has at most twenty fields", fields <= 20);
            for (Method m : c.getDeclaredMethods()) {
                Check.holds(m.getName() + " takes at most seven", m.getParameterCount() <= 7);
            }
        }
    }

    private static void source() throws Exception {
        String text = Files.readString(Path.of("src/main/java/CamelStraws.java"));
        String code = text.replaceAll("(?s)/\\*.*?\\*/", " ").replaceAll("//[^\n]*", " ");
        for (String word : FORBIDDEN) {
            Check.holds("no " + word, !Pattern.compile("\\b" + word + "\\b").matcher(code).find());
        }
        for (String sign : new String[] {"->", "::", "@", "package "}) {
            Check.holds("no " + sign, !code.contains(sign));
        }
        Matcher imports = Pattern.compile("import\\s+([^;]+);").matcher(code);
        while (imports.find()) {
            Check.holds("import of " + imports.group(1), imports.group(1).equals("java.util.Arrays"));
        }
        Check.holds("ASCII alone", text.chars().allMatch(sign -> sign < 128));
    }
}
