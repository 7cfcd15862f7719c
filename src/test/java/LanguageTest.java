import java.io.IOException;
import java.lang.reflect.Array;
import java.lang.reflect.Field;
import java.lang.reflect.Method;
import java.lang.reflect.Modifier;
import java.nio.file.Files;
import java.nio.file.Path;
import java.util.ArrayList;
import java.util.Collections;
import java.util.HashSet;
import java.util.IdentityHashMap;
import java.util.List;
import java.util.Set;
import java.util.regex.Pattern;

/** The rules of LANGUAGE.md that can be read off the source or the class, and the room that an object takes. */
public final class LanguageTest {
    private static final Path SOURCE = Path.of("src/main/java/SaltCaravans.java");
    private static final int MOST_LINES = 60;
    private static final int MOST_PARAMETERS = 7;
    private static final int MOST_CLASSES = 12;
    private static final int MOST_FIELDS = 20;
    private static final String[] FORBIDDEN = {
        "\\bpackage\\b", "->", "::", "\\btry\\b", "\\bcatch\\b", "\\bfinally\\b", "\\bsynchronized\\b", "\\bassert\\b",
        "Exact\\(", "\\bequals\\b", "\\bhashCode\\b", "\\btoString\\b", "\\bvar\\b", "\\bprotected\\b", "\\bdouble\\b",
        "\\bfloat\\b", "\\bThread\\b", "\\bRandom\\b", "\\bextends\\b", "java\\.io", "java\\.nio", "java\\.time",
        "System\\.(?!arraycopy)", "static \\{", "[^\\x00-\\x7f]",
    };

    public static void main(String[] args) throws IOException, IllegalAccessException {
        List<String> lines = Files.readAllLines(SOURCE);
        nothingForbidden(lines);
        methodsAreShort(lines);
        objectsAreMadeInConstructors(lines);
        classesAreSmall();
        namesOfTheFace();
        anObjectTakesLittleRoom();
        Checks.finish();
    }

    private static void nothingForbidden(List<String> lines) {
        for (String line : lines) {
            for (String sign : FORBIDDEN) {
                Checks.due(sign + " in: " + line, Pattern.compile(sign).matcher(line).find(), false);
            }
            if (line.startsWith("import")) {
                Checks.due("import", line, "import java.util.NoSuchElementException;");
            }
        }
    }

    private static void methodsAreShort(List<String> lines) {
        Pattern head = Pattern.compile("^(    |        )[a-z].*[(].*|^    public SaltCaravans.*");
        int begin = 0;
        for (int i = 0; i < lines.size(); i++) {
            String line = lines.get(i);
            if (head.matcher(line).matches() && line.endsWith("{")) {
                begin = i;
            }
            if (line.equals("    }") || line.equals("        }")) {
                // The end of a class lies behind the end of its last method.
                Checks.due("a long method at line " + begin, i - begin > MOST_LINES && begin > 0, false);
                begin = i;
            }
        }
    }

    private static void objectsAreMadeInConstructors(List<String> lines) {
        Pattern constructor = Pattern.compile("^ +(public )?[A-Z]\\w*\\(.*\\) \\{$");
        boolean inside = false;
        for (String line : lines) {
            if (constructor.matcher(line).matches()) {
                inside = true;
            } else if (line.isEmpty()) {
                inside = false;
            }
            boolean makes = Pattern.compile("\\bnew\\b").matcher(line).find() && !line.trim().startsWith("throw new");
            boolean comment = line.trim().startsWith("/") || line.trim().startsWith("*");
            Checks.due("an object made by: " + line, makes && !comment && !inside, false);
        }
    }

    private static List<Class<?>> allClasses() {
        List<Class<?>> all = new ArrayList<>(List.of(SaltCaravans.class.getDeclaredClasses()));
        all.add(SaltCaravans.class);
        return all;
    }

    private static void classesAreSmall() {
        Checks.due("few classes", allClasses().size() <= MOST_CLASSES, true);
        for (Class<?> c : allClasses()) {
            int fields = 0;
            for (Field f : c.getDeclaredFields()) {
                boolean isStatic = Modifier.isStatic(f.getModifiers());
                fields += isStatic ? 0 : 1;
                Checks.due(f + " is final", !isStatic || Modifier.isFinal(f.getModifiers()), true);
            }
            Checks.due("few fields of " + c, fields <= MOST_FIELDS, true);
            for (Method m : c.getDeclaredMethods()) {
                Checks.due("few parameters of " + m, m.getParameterCount() <= MOST_PARAMETERS, true);
            }
        }
    }

    private static void namesOfTheFace() {
        Set<String> face = new HashSet<>();
        for (Method m : SaltCaravans.class.getDeclaredMethods()) {
            if (Modifier.isPublic(m.getModifiers())) {
                face.add(m.getName());
            }
        }
        for (Class<?> c : allClasses()) {
            for (Method m : c.getDeclaredMethods()) {
                boolean public0 = Modifier.isPublic(m.getModifiers());
                Checks.due(m + " bears a name of the face", !public0 && face.contains(m.getName()), false);
            }
        }
    }

    // 512 calls may each make a new object at worst: 7.3 million fields and elements hold 512 times 14000.
    private static void anObjectTakesLittleRoom() throws IllegalAccessException {
        long[] room = new long[2];
        Set<Object> seen = Collections.newSetFromMap(new IdentityHashMap<>());
        walk(new SaltCaravans(), room, seen, 0);
        System.out.println("an object takes " + room[0] + " objects, " + room[1] + " fields and elements");
        Checks.due("objects", room[0] <= 600000 / 1024, true);
        Checks.due("fields and elements", room[1] <= 7300000 / 1024, true);
    }

    private static void walk(Object o, long[] room, Set<Object> seen, int depth)
            throws IllegalAccessException {
        if (o == null || depth > 20 || !seen.add(o)) {
            return;
        }
        room[0]++;
        if (o.getClass().isArray()) {
            int length = Array.getLength(o);
            room[1] += length;
            for (int i = 0; i < length && !o.getClass().getComponentType().isPrimitive(); i++) {
                walk(Array.get(o, i), room, seen, depth + 1);
            }
            return;
        }
        for (Field f : o.getClass().getDeclaredFields()) {
            if (!Modifier.isStatic(f.getModifiers())) {
                room[1]++;
                f.setAccessible(true);
                if (!f.getType().isPrimitive()) {
                    walk(f.get(o), room, seen, depth + 1);
                }
            }
        }
    }
}
