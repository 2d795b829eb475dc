import java.io.IOException;
import java.lang.reflect.Constructor;
import java.lang.reflect.Field;
import java.lang.reflect.Method;
import java.lang.reflect.Modifier;
import java.nio.file.Files;
import java.nio.file.Path;
import java.util.Arrays;
import java.util.List;
import java.util.TreeSet;
import java.util.regex.Matcher;
import java.util.regex.Pattern;

/** The rules of LANGUAGE.md that can be seen in the text or in the class file. */
public final class LanguageTest {
    private static final Due DUE = new Due();
    private static final List<String> FACE = List.of("feed 5", "end 1", "river 0", "rule 0", "force 1", "memory 2", "trap 2",
        "person 1", "moon 1", "night 0", "lift 1", "sink 3", "free 2", "give 2", "undo 0", "ahead 2", "caught 2", "atSea 1",
        "full 0", "bestSink 3", "lay 4", "throats 2", "astray 0", "rings 1", "right 1", "of 1", "rests 4", "cycle 1",
        "pence 2", "note 3", "ruled 1", "look 2", "seed 1", "moons 4", "count 1", "image 1", "back 1");

    public static void main(String[] args) throws IOException {
        face();
        classes();
        text(Files.readString(Path.of("src/main/java/EelThroat.java")));
        DUE.close("LanguageTest");
    }

    private static void face() {
        TreeSet<String> seen = new TreeSet<>();
        for (Method m : EelThroat.class.getDeclaredMethods()) {
            if (m.isSynthetic()) {
                continue;
            }
            if (Modifier.isPublic(m.getModifiers())) {
                seen.add(m.getName() + " " + m.getParameterCount());
                DUE.is(m + " answers an int", m.getReturnType() == int.class ? 1 : 0, 1);
            } else {
                DUE.is(m + " is private", Modifier.isPrivate(m.getModifiers()) ? 1 : 0, 1);
                DUE.is(m + " has a name of its own", isTaken(m) ? 1 : 0, 0);
            }
        }
        DUE.is("the face " + seen, seen.equals(new TreeSet<>(FACE)) ? 1 : 0, 1);
        for (Field f : EelThroat.class.getDeclaredFields()) {
            boolean asTold = f.getName().equals("NONE") ? Modifier.isPublic(f.getModifiers()) : Modifier.isPrivate(f.getModifiers());
            DUE.is(f + " is as told", asTold ? 1 : 0, 1);
        }
        Constructor<?>[] made = EelThroat.class.getDeclaredConstructors();
        DUE.is("constructors", made.length, 1);
        DUE.is("constructors", made[0].getParameterCount(), 0);
        DUE.is("final", Modifier.isFinal(EelThroat.class.getModifiers()) ? 1 : 0, 1);
    }

    private static boolean isTaken(Method m) {
        return FACE.stream().anyMatch(f -> f.startsWith(m.getName() + " "));
    }

    private static void classes() {
        Class<?>[] inside = EelThroat.class.getDeclaredClasses();
        DUE.is("twelve classes at most", Math.max(12, inside.length + 1), 12);
        for (Class<?> c : inside) {
            DUE.is(c + " is static", Modifier.isStatic(c.getModifiers()) ? 1 : 0, 1);
            long fields = Arrays.stream(c.getDeclaredFields()).filter(f -> !Modifier.isStatic(f.getModifiers())).count();
            DUE.is(c + " has twenty fields at most", Math.max(20, fields), 20);
            for (Field f : c.getDeclaredFields()) {
                boolean good = !Modifier.isStatic(f.getModifiers()) || Modifier.isFinal(f.getModifiers());
                DUE.is(f + " is final, if it is static", good ? 1 : 0, 1);
            }
            for (Method m : c.getDeclaredMethods()) {
                DUE.is(m + " has a name of its own", isTaken(m) ? 1 : 0, 0);
                DUE.is(m + " takes seven at most", Math.max(7, m.getParameterCount()), 7);
            }
        }
    }

    private static void text(String text) {
        String code = text.replaceAll("(?s)/\\*.*?\\*/", "").replaceAll("//[^\n]*", "");
        for (String word : List.of("throw", "throws", "try", "catch", "finally", "synchronized", "assert", "import", "package",
                "instanceof", "hashCode", "equals", "toString", "Exact", "Thread", "System.out", "System.nano", "System.current")) {
            Matcher m = Pattern.compile("\\b" + Pattern.quote(word) + "\\b").matcher(code);
            DUE.is("'" + word + "' stands in it", m.find() ? 1 : 0, 0);
        }
        DUE.is("a lambda or a method reference", code.contains("->") || code.contains("::") ? 1 : 0, 0);
        int longest = 0;
        int begun = -1;
        String[] lines = code.split("\n");
        for (int i = 0; i < lines.length; i++) {
            if (lines[i].matches("( {4}| {8})[a-zA-Z].*\\) \\{")) {
                begun = i;
            } else if (lines[i].matches("( {4}| {8})\\}") && begun >= 0) {
                longest = Math.max(longest, i - begun + 1);
                begun = -1;
            }
        }
        DUE.is("sixty lines at most", Math.max(60, longest), 60);
        DUE.is("signs 1 to 127", text.chars().allMatch(c -> c > 0 && c < 128) ? 1 : 0, 1);
    }
}
