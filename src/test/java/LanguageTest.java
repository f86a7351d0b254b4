import java.io.IOException;
import java.lang.reflect.Constructor;
import java.lang.reflect.Field;
import java.lang.reflect.Method;
import java.lang.reflect.Modifier;
import java.nio.file.Files;
import java.nio.file.Path;
import java.util.Set;
import java.util.TreeSet;
import java.util.regex.Matcher;
import java.util.regex.Pattern;

/** Those rules of LANGUAGE.md that can be looked up in the text of LockTable.java, or by reflection. */
public final class LanguageTest {
    private static final String FACE = "thing thingOf ask give leaves forgets breaks held holders waits line waitsFor "
        + "ring count would needs strongest plan plays lots weighs plunges bell gate feed reads spells paper list set "
        + "get does into image back";
    private static final int LONGEST_METHOD = 60, MOST_PARAMETERS = 7, MOST_CLASSES = 12, MOST_FIELDS = 20;

    private static int wrong = 0;

    private static void must(boolean holds, String what) {
        if (holds) return;
        wrong++;
        System.out.println("LANGUAGE: " + what);
    }

    public static void main(String[] args) throws IOException {
        String source = Files.readString(Path.of("src/main/java/LockTable.java"));
        String code = source.replaceAll("(?s)/\\*.*?\\*/", "").replaceAll("//[^\n]*", "");
        words(code);
        methodsAreShort(code);
        face();
        classes();
        System.out.println("LanguageTest: " + wrong + " wrong");
        if (wrong != 0) System.exit(1);
    }

    private static void words(String code) {
        for (String word : new String[] {"throw", "throws", "try", "catch", "finally", "synchronized", "assert", "import",
            "package", "protected", "transient", "volatile", "native", "Exact", "Object", "System.out", "->", "::",
            "Random", "Thread", "instanceof", "float", "double", "hashCode", "toString", "equals"}) {
            boolean plain = Character.isLetter(word.charAt(0));
            Pattern p = Pattern.compile(plain ? "\\b" + Pattern.quote(word) + "\\b" : Pattern.quote(word));
            must(!p.matcher(code).find(), "the text has " + word);
        }
        must(code.chars().allMatch(c -> c < 128), "a sign above 127");
        Matcher library = Pattern.compile("\\b(System|Math|Integer|Long|Arrays|String|List)\\.(\\w+)").matcher(code);
        Set<String> used = new TreeSet<>();
        while (library.find()) used.add(library.group());
        used.removeAll(Set.of("System.arraycopy", "Math.max", "Long.MIN_VALUE"));
        must(used.isEmpty(), "library " + used);
        // what is made is made once, in constructors: no call makes anything
        must(!Pattern.compile("(?m)^ {8,}+(?!final|private final).*\\bnew\\b").matcher(code).find(), "a call makes something");
    }

    private static void methodsAreShort(String code) {
        String[] lines = code.split("\n");
        for (int k = 0; k < lines.length; k++) {
            Matcher head = Pattern.compile("^( +)\\S.*\\) \\{$").matcher(lines[k]);
            if (!head.matches() || head.group(1).length() > 8) continue;
            int end = k;
            while (!lines[end].equals(head.group(1) + "}")) end++;
            must(end - k <= LONGEST_METHOD, "a long method: " + lines[k].trim());
        }
    }

    private static void face() {
        Set<String> face = new TreeSet<>(Set.of(FACE.split(" ")));
        Set<String> found = new TreeSet<>();
        for (Method m : LockTable.class.getDeclaredMethods()) {
            if (m.isSynthetic()) continue;
            if (Modifier.isPublic(m.getModifiers())) found.add(m.getName());
            else must(Modifier.isPrivate(m.getModifiers()) && !face.contains(m.getName()), "method " + m);
        }
        must(found.equals(face), "the face is " + found);
        Set<String> open = new TreeSet<>();
        for (Field f : LockTable.class.getDeclaredFields()) {
            if (!Modifier.isPrivate(f.getModifiers())) open.add(f.getName());
        }
        must(open.equals(Set.of("BAD", "NOT", "FULL", "STATE", "NO")), "open fields " + open);
        Constructor<?>[] made = LockTable.class.getDeclaredConstructors();
        must(made.length == 1 && Modifier.isPublic(made[0].getModifiers()), "constructors");
        must(Modifier.isFinal(LockTable.class.getModifiers()), "final");
    }

    private static void classes() {
        Class<?>[] inside = LockTable.class.getDeclaredClasses();
        must(inside.length < MOST_CLASSES, "too many classes");
        fieldsOf(LockTable.class);
        Set<String> face = Set.of(FACE.split(" "));
        for (Class<?> c : inside) {
            must(Modifier.isStatic(c.getModifiers()), c + " is not static");
            fieldsOf(c);
            for (Method m : c.getDeclaredMethods()) {
                must(m.getParameterCount() <= MOST_PARAMETERS, "parameters of " + m);
                must(!face.contains(m.getName()), "a name of the face: " + m);
            }
        }
    }

    private static void fieldsOf(Class<?> c) {
        int fields = 0;
        for (Field f : c.getDeclaredFields()) {
            if (Modifier.isStatic(f.getModifiers())) must(Modifier.isFinal(f.getModifiers()), "static " + f);
            else fields++;
        }
        must(fields <= MOST_FIELDS, "too many fields in " + c);
    }
}
