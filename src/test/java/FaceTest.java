import java.io.IOException;
import java.lang.reflect.Constructor;
import java.lang.reflect.Field;
import java.lang.reflect.Method;
import java.lang.reflect.Modifier;
import java.nio.file.Files;
import java.nio.file.Path;
import java.util.Set;
import java.util.TreeSet;
import java.util.regex.Matcher;
import java.util.regex.Pattern;

/** The public face is the document's, no more and no less; the source keeps to what LANGUAGE.md tells by word. */
public final class FaceTest {
    private static final String[] METHODS = {
        "int step(int, int, int)", "int change(int, int, int)", "int set(int, int)", "int limit(int, int)",
        "long dirt(int, int)", "long least(int)", "int fresh(int, int)", "int pipe(int, int, int)",
        "int water(int, int)", "int fails()", "long at(int, int)", "int hit(int, int, int)",
        "int steady(int, int, int, int, int)", "int store(int, int, int)", "int room(int)", "int meter(int)",
        "int read(int, int)", "long gap(int)", "long mended(int, int)", "int count(int)", "long trace()"};
    private static final String[] FIELDS = {"int BAD", "int STATE", "int FULL", "int NONE", "long NO"};
    private static final String[] FORBIDDEN = {
        "throw", "throws", "try", "catch", "finally", "synchronized", "assert", "import", "package", "native",
        "volatile", "transient", "protected", "var", "System", "Thread", "Random", "Object", "hashCode", "toString"};

    private static int wrong = 0;

    public static void main(String[] args) throws IOException {
        face();
        classesInside();
        Path root = Path.of(System.getProperty("watertwice.root", "."));
        source(Files.readString(root.resolve("src/main/java/WaterTwice.java")));
        System.out.println(wrong == 0 ? "the face is as told" : wrong + " faults of the face");
        if (wrong != 0) {
            System.exit(1);
        }
    }

    private static void check(boolean holds, String what) {
        if (!holds) {
            wrong++;
            System.out.println("not so: " + what);
        }
    }

    private static void face() {
        Class<?> c = WaterTwice.class;
        check(c.getModifiers() == (Modifier.PUBLIC | Modifier.FINAL), "the class is public and final");
        Set<String> methods = new TreeSet<>();
        Set<String> publicNames = new TreeSet<>();
        Set<String> privateNames = new TreeSet<>();
        for (Method m : c.getDeclaredMethods()) {
            if (Modifier.isPrivate(m.getModifiers())) {
                privateNames.add(m.getName());
                continue;
            }
            check(m.getModifiers() == Modifier.PUBLIC, m.getName() + " is just public");
            publicNames.add(m.getName());
            StringBuilder parameters = new StringBuilder();
            for (Class<?> p : m.getParameterTypes()) {
                parameters.append(parameters.length() > 0 ? ", " : "").append(p.getName());
            }
            methods.add(m.getReturnType().getName() + " " + m.getName() + "(" + parameters + ")");
        }
        check(methods.equals(new TreeSet<>(Set.of(METHODS))), "methods: " + methods);
        privateNames.retainAll(publicNames);
        check(privateNames.isEmpty(), "no private method bears a public one's name: " + privateNames);
        Set<String> fields = new TreeSet<>();
        for (Field f : c.getDeclaredFields()) {
            if (!Modifier.isPrivate(f.getModifiers())) {
                check(f.getModifiers() == (Modifier.PUBLIC | Modifier.STATIC | Modifier.FINAL), f + " is a constant");
                fields.add(f.getType().getName() + " " + f.getName());
            }
        }
        check(fields.equals(new TreeSet<>(Set.of(FIELDS))), "constants: " + fields);
        Constructor<?>[] constructors = c.getDeclaredConstructors();
        check(constructors.length == 1 && constructors[0].getParameterCount() == 0
            && constructors[0].getModifiers() == Modifier.PUBLIC, "one public constructor");
    }

    private static void classesInside() {
        Class<?>[] inside = WaterTwice.class.getDeclaredClasses();
        check(inside.length < 12, "at most twelve classes");
        fewFields(WaterTwice.class);
        for (Class<?> c : inside) {
            int m = c.getModifiers();
            check(Modifier.isStatic(m) && !Modifier.isPublic(m) && !Modifier.isProtected(m), c + " is static, and not public");
            fewFields(c);
        }
    }

    private static void fewFields(Class<?> c) {
        int fields = 0;
        for (Field f : c.getDeclaredFields()) {
            if (Modifier.isStatic(f.getModifiers())) {
                check(Modifier.isFinal(f.getModifiers()), f + " is final");
            } else {
                fields++;
            }
        }
        check(fields <= 20, c + " has at most twenty fields");
    }

    private static void source(String text) {
        String code = text.replaceAll("(?s)/\\*.*?\\*/", " ").replaceAll("//[^\n]*", " ");
        for (String word : FORBIDDEN) {
            check(!Pattern.compile("\\b" + word + "\\b").matcher(code).find(), "no '" + word + "' in the code");
        }
        check(!code.contains("->") && !code.contains("::"), "no lambda and no method reference");
        check(!code.contains("double") && !code.contains("float"), "whole numbers alone");
        check(code.indexOf('"') < 0, "no texts");
        check(text.chars().allMatch(ch -> ch < 128), "plain characters alone");
        Matcher library = Pattern.compile("\\b(?:Math|Long|Integer)\\.(\\w+)").matcher(code);
        Set<String> known = Set.of("abs", "max", "min", "compare");
        while (library.find()) {
            check(known.contains(library.group(1)), "library: " + library.group());
        }
        check(!code.contains("while"), "each loop is a 'for' with a counter");
        shortMethods(code);
        madeOnlyWithTheObject(code);
    }

    /** Rule 11. */
    private static void shortMethods(String code) {
        Matcher head = Pattern.compile("(?m)^( +)[\\w\\[\\] ]*\\b(\\w+)\\(([^()]*)\\) \\{$").matcher(code);
        int methods = 0;
        while (head.find()) {
            int end = code.indexOf("\n" + head.group(1) + "}", head.end());
            check(code.substring(head.end(), end).lines().count() <= 60, head.group(2) + " has at most sixty lines");
            check(head.group(3).split(",").length <= 7, head.group(2) + " takes at most seven parameters");
            methods++;
        }
        check(methods > METHODS.length, "methods are found in the code: " + methods);
    }

    /** All calls of a run share one room, so a call is to make no object: fields and constructors do. */
    private static void madeOnlyWithTheObject(String code) {
        String rest = code.replaceAll("(?m)^ +private final [^\n]* = new [^\n]*;$", "")
            .replaceAll("(?ms)^( +)(?:public )?(?:WaterTwice|Limits|Design)\\([^()]*\\) \\{$.*?^\\1\\}$", "");
        Matcher made = Pattern.compile("\\bnew \\w+").matcher(rest);
        while (made.find()) {
            check(false, "made with the object: " + made.group());
        }
    }
}
