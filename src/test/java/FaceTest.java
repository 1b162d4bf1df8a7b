import java.io.IOException;
import java.lang.reflect.Constructor;
import java.lang.reflect.Field;
import java.lang.reflect.Method;
import java.lang.reflect.Modifier;
import java.nio.file.Files;
import java.nio.file.Path;
import java.util.ArrayList;
import java.util.Arrays;
import java.util.List;
import java.util.Map;
import java.util.Set;
import java.util.TreeMap;
import java.util.TreeSet;
import java.util.regex.Matcher;
import java.util.regex.Pattern;
import java.util.stream.Collectors;

/** The public face of the document, and what LANGUAGE.md rules that can be looked up. */
public final class FaceTest {
    private static final String FACE = "write1 wipe0 fault0 lay0 customer2 says2 fine2 change2 away1 say3 day0 undo0 "
        + "behind2 order2 helpless0 words2 see2 forget0 stood1 said2 mouths1 chance4 year3 keep0 back0 count1";

    public static void main(String[] args) throws IOException {
        methods();
        fields();
        constructors();
        classesInside();
        measures();
        source(Files.readString(Path.of(System.getProperty("main.source", "src/main/java/GroundByHearsay.java"))));
        Checks.end();
    }

    private static void methods() {
        Set<String> due = new TreeSet<>(Arrays.asList(FACE.split(" ")));
        Set<String> got = new TreeSet<>();
        Set<String> names = due.stream().map(m -> m.substring(0, m.length() - 1)).collect(Collectors.toSet());
        for (Method m : GroundByHearsay.class.getDeclaredMethods()) {
            if (Modifier.isPublic(m.getModifiers())) {
                got.add(m.getName() + m.getParameterCount());
                Checks.isSo("int of ints: " + m, m.getReturnType() == int.class
                    && Arrays.stream(m.getParameterTypes()).allMatch(t -> t == int.class));
            } else {
                Checks.isSo("private, of a name of its own: " + m,
                    Modifier.isPrivate(m.getModifiers()) && !names.contains(m.getName()));
            }
        }
        Checks.isSo("the face " + got, got.equals(due));
    }

    private static void fields() {
        Set<String> open = new TreeSet<>();
        for (Field f : GroundByHearsay.class.getDeclaredFields()) {
            int how = f.getModifiers();
            if (!Modifier.isPrivate(how)) {
                open.add(f.getName());
                Checks.isSo("a constant: " + f, Modifier.isPublic(how) && Modifier.isStatic(how)
                    && Modifier.isFinal(how) && f.getType() == int.class);
            }
            Checks.isSo("no static state: " + f, !Modifier.isStatic(how) || Modifier.isFinal(how));
        }
        Checks.isSo("the constants " + open, open.equals(Set.of("BAD", "NO", "FULL", "NONE")));
    }

    private static void constructors() {
        Constructor<?>[] all = GroundByHearsay.class.getDeclaredConstructors();
        Checks.due("constructors", all.length, 1);
        Checks.isSo("public, without arguments", Modifier.isPublic(all[0].getModifiers())
            && all[0].getParameterCount() == 0);
        int how = GroundByHearsay.class.getModifiers();
        Checks.isSo("public final class", Modifier.isPublic(how) && Modifier.isFinal(how));
    }

    private static void classesInside() {
        Class<?>[] inside = GroundByHearsay.class.getDeclaredClasses();
        Checks.isSo("at most twelve classes", inside.length < 12);
        for (Class<?> one : inside) {
            int how = one.getModifiers();
            Checks.isSo("static, not public: " + one, Modifier.isStatic(how)
                && !Modifier.isPublic(how) && !Modifier.isProtected(how));
        }
    }

    private static void measures() {
        List<Class<?>> all = new ArrayList<>(Arrays.asList(GroundByHearsay.class.getDeclaredClasses()));
        all.add(GroundByHearsay.class);
        for (Class<?> one : all) {
            int held = 0;
            for (Field f : one.getDeclaredFields()) {
                int how = f.getModifiers();
                held += Modifier.isStatic(how) ? 0 : 1;
                Checks.isSo("no static state: " + f, !Modifier.isStatic(how) || Modifier.isFinal(how));
            }
            Checks.isSo("at most twenty fields: " + one, held <= 20);
            for (Method m : one.getDeclaredMethods()) {
                Checks.isSo("at most seven parameters: " + m, m.getParameterCount() <= 7);
            }
        }
    }

    /** The text of each method by its name, those of one name together: it begins and ends at the same indent, 4 or 8. */
    private static Map<String, String> bodies(String code) {
        String head = "^( {4}| {8})(?! )[^=\\n;]*?(\\w+)\\([^\\n;]*\\) \\{\\n";
        Matcher method = Pattern.compile("(?m)" + head + "((?:\\1 .*\\n|\\n)*)\\1\\}$").matcher(code);
        Map<String, String> found = new TreeMap<>();
        int many = 0;
        while (method.find()) {
            many++;
            Checks.isSo("at most sixty lines: " + method.group(2), method.group().lines().count() <= 60);
            found.merge(method.group(2), method.group(3), String::concat);
        }
        Checks.isSo("the methods were found", many > 90);
        return found;
    }

    private static void makings(Map<String, String> bodies) {
        for (Map.Entry<String, String> one : bodies.entrySet()) {
            boolean isConstructor = Character.isUpperCase(one.getKey().charAt(0));
            Checks.isSo("makes no object: " + one.getKey(),
                isConstructor || !Pattern.compile("\\bnew\\b").matcher(one.getValue()).find());
        }
    }

    private static void depths(Map<String, String> bodies) {
        for (String name : bodies.keySet()) {
            Checks.isSo("at most eight deep, and no recursion: " + name, depth(bodies, name, 0) <= 8);
        }
    }

    /** How many calls stand open at once from that one on; more than 8 where there is no end. */
    private static int depth(Map<String, String> bodies, String name, int open) {
        int deepest = 0;
        Matcher called = Pattern.compile("(\\w+)\\(").matcher(bodies.get(name));
        while (called.find() && open <= 8) {
            if (bodies.containsKey(called.group(1))) {
                deepest = Math.max(deepest, depth(bodies, called.group(1), open + 1));
            }
        }
        return deepest + 1;
    }

    private static void source(String whole) {
        String code = whole.replaceAll("(?s)/\\*.*?\\*/", "").replaceAll("//.*", "");
        Map<String, String> bodies = bodies(code);
        makings(bodies);
        depths(bodies);
        for (String out : new String[] {"->", "::", "\\btry\\b", "\\bcatch\\b", "\\bfinally\\b", "\\bsynchronized\\b",
            "\\bassert\\b", "\\bthrow\\b", "\\bprotected\\b", "\\bpackage\\b", "\\bstatic\\s*\\{", "\\bhashCode\\b",
            "System\\.(?!arraycopy)", "Exact\\(", "\\bRandom\\b", "\\[\\]\\s*\\[\\]\\s*\\[\\]", "\\bvar\\b"}) {
            Matcher found = Pattern.compile(out).matcher(code);
            Checks.isSo("no " + out, !found.find());
        }
        Matcher imports = Pattern.compile("\\bimport\\s+([^;]+);").matcher(code);
        while (imports.find()) {
            Checks.isSo("import of " + imports.group(1), imports.group(1).equals("java.util.Arrays"));
        }
        Checks.isSo("signs 1 to 127", whole.chars().allMatch(sign -> sign >= 1 && sign <= 127));
    }
}
