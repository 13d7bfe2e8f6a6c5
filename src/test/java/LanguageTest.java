import java.io.IOException;
import java.lang.reflect.Field;
import java.lang.reflect.Method;
import java.lang.reflect.Modifier;
import java.nio.file.Files;
import java.nio.file.Path;
import java.util.ArrayList;
import java.util.List;
import java.util.Set;
import java.util.TreeSet;
import java.util.regex.Matcher;
import java.util.regex.Pattern;

/** LANGUAGE.md, as far as a look at the source and at the class can tell; and the room that calls take. */
public final class LanguageTest {
    private static final String FACE = "cell claim count creep dies entry feed found held lay meeting mend next offset "
            + "out probe probing program reworked right run set since split step table take turn undo work";

    private LanguageTest() {
    }

    public static void main(String[] args) throws IOException {
        face();
        String source = Files.readString(Path.of("src/main/java/LightPlate.java"));
        String code = source.replaceAll("(?s)/\\*.*?\\*/", "").replaceAll("//[^\n]*", "");
        words(code);
        methods(code);
        classes();
        room();
        Checks.end();
    }

    private static void face() {
        Set<String> open = new TreeSet<>();
        for (Method m : LightPlate.class.getDeclaredMethods()) {
            if (!Modifier.isPrivate(m.getModifiers())) open.add(m.getName());
        }
        Checks.same("methods of the face", String.join(" ", open), FACE);
        Set<String> fields = new TreeSet<>();
        for (Field f : LightPlate.class.getDeclaredFields()) {
            if (!Modifier.isPrivate(f.getModifiers())) fields.add(f.getName());
        }
        Checks.same("constants of the face", String.join(" ", fields), "BAD FULL NONE STATE");
        Checks.due("constructors", LightPlate.class.getDeclaredConstructors().length, 1);
        Checks.holds("final", Modifier.isFinal(LightPlate.class.getModifiers()));
    }

    private static void words(String code) {
        String[] forbidden = {"throw", "throws", "try", "catch", "finally", "synchronized", "assert", "volatile",
            "hashCode", "toString", "Object", "var", "package", "protected", "Exact", "System.out", "Random", "Thread"};
        for (String word : forbidden) {
            Checks.holds("no " + word, !Pattern.compile("\\b" + word + "\\b").matcher(code).find());
        }
        Checks.holds("no lambda", !code.contains("->"));
        Checks.holds("no method reference", !code.contains("::"));
        Matcher imports = Pattern.compile("import ([^;]*);").matcher(code);
        while (imports.find()) Checks.same("import", imports.group(1), "java.util.Arrays");
        Matcher library = Pattern.compile("\\b(Math|Arrays|System|Integer|Long)\\.(\\w+)").matcher(code);
        Set<String> allowed = Set.of("Math.floorMod", "Math.min", "Math.max", "Math.abs", "Arrays.fill", "System.arraycopy");
        while (library.find()) Checks.holds("library: " + library.group(), allowed.contains(library.group()));
        for (char c : code.toCharArray()) Checks.holds("plain signs", c < 128);
    }

    /** Methods by their heads at four or eight blanks, each to the brace that closes it at the same place. */
    private static void methods(String code) {
        Set<String> faceNames = Set.of(FACE.split(" "));
        Pattern head = Pattern.compile("^( {4}| {8})((?:public |private |static |final )*)[\\w\\[\\]]+ ([a-z]\\w*)\\(([^)]*)\\) \\{$");
        List<String> lines = new ArrayList<>(List.of(code.split("\n")));
        for (int at = 0; at < lines.size(); at++) {
            Matcher m = head.matcher(lines.get(at));
            if (!m.matches()) continue;
            int end = at;
            while (!lines.get(end).equals(m.group(1) + "}")) end++;
            Checks.holds(m.group(3) + " has " + (end - at) + " lines", end - at <= 40);
            Checks.holds(m.group(3) + " takes " + m.group(4), m.group(4).split(",").length <= 7);
            boolean open = m.group(2).startsWith("public");
            Checks.holds(m.group(3) + " bears a name of the face", open == faceNames.contains(m.group(3)));
            for (int l = at; l < end; l++) {
                Checks.holds(m.group(3) + " makes an object", !lines.get(l).contains(" new "));
            }
        }
    }

    private static void classes() {
        Class<?>[] inside = LightPlate.class.getDeclaredClasses();
        Checks.holds("classes: " + inside.length, inside.length + 1 <= 12);
        for (Class<?> c : inside) {
            Checks.holds(c + " is static", Modifier.isStatic(c.getModifiers()));
            int fields = 0;
            for (Field f : c.getDeclaredFields()) {
                if (!Modifier.isStatic(f.getModifiers())) fields++;
                else Checks.holds(f + " is final", Modifier.isFinal(f.getModifiers()));
            }
            Checks.holds(c + " has " + fields + " fields", fields <= 20);
        }
    }

    /** All calls of a run live in one room: only the constructor takes some of it. */
    private static void room() {
        com.sun.management.ThreadMXBean bean =
                (com.sun.management.ThreadMXBean) java.lang.management.ManagementFactory.getThreadMXBean();
        everyCall(new LightPlate(4), 300);
        bean.getCurrentThreadAllocatedBytes();
        long start = bean.getCurrentThreadAllocatedBytes();
        LightPlate x = new LightPlate(4);
        long made = bean.getCurrentThreadAllocatedBytes();
        everyCall(x, 100);
        long used = bean.getCurrentThreadAllocatedBytes();
        Checks.holds("bytes of an object: " + (made - start), made - start < 80_000);
        Checks.holds("bytes of 3000 calls: " + (used - made), used - made < 4_000);
    }

    private static void everyCall(LightPlate x, int rounds) {
        for (int r = 0; r < rounds; r++) {
            x.set(r % 12, r % 12 % 2, r % 96);
            x.offset(r % 12, r % 12 % 2, r % 9);
            x.creep(1 + r % 99);
            x.table(r % 6, 0);
            x.take();
            x.right();
            x.split();
            x.undo();
            x.work(0, 0);
            x.step(0, 0);
            x.feed(0x352873203029L, 6);
            x.program();
            x.dies(r % 12, r % 12 % 2, 0);
            x.lay();
            x.mend(r % 12, r % 12 % 2);
            x.run(r);
            x.reworked(r % 40, 0);
            x.since();
            x.found(2, 0, 1, 0);
            x.probing();
            x.probe(r % 6, 0);
            x.held(1);
            x.next();
            x.claim(r % 2, r % 12, r % 12 % 2);
            x.meeting();
            x.count(r % 8);
        }
    }
}
