import java.lang.reflect.Constructor;
import java.lang.reflect.Field;
import java.lang.reflect.Method;
import java.lang.reflect.Modifier;
import java.nio.file.Files;
import java.nio.file.Path;
import java.util.Arrays;
import java.util.HashSet;
import java.util.Set;
import java.util.TreeSet;
import java.util.regex.Matcher;
import java.util.regex.Pattern;

/** The public face of the document, and those rules of LANGUAGE.md that can be seen from outside or in the text. */
public final class FaceTest {
    private static final String FACE = """
        int road(int, int)
        int sort(int, int, int)
        int car(int, int)
        int walks(int, int, int)
        int stop(int, int, int, int)
        int open(int, int)
        int want(int, int)
        int turns(int, int)
        int told(int, int)
        int trip(int, int, int, int)
        int count(int)
        int takes(int, int)
        long sum(int)
        int use(int)
        int feed(long, int)
        int text()
        int force(int)
        long best(int)
        int bound(int)
        int least(int)
        int fair()
        int fewest(int)
        int judge(int)
        long patterns(int)
        long bench(int, int)
        int give()
        int order(int)
        int thins()
        long across(int)
        int homes()
        int round(int)
        int rest(int)
        int asks(int)
        int asked()
        int bunch(int, int)
        int crowd(int, int)
        int drawn(int, int)
        int image()
        int back()
        int sheet(int, int, int)
        int cell(int, int, int)
        int copy(int, int, int, int, int)
        int tripsBy(int, int, int, int)
        int taken(int, int)
        """;

    private FaceTest() {
    }

    public static void main(String[] args) throws Exception {
        constants();
        face();
        inside();
        text(Files.readString(Path.of("src/main/java/BetweenStops.java")));
        Due.end();
    }

    private static void constants() {
        Due.due("NONE", BetweenStops.NONE, -1);
        Due.due("BAD", BetweenStops.BAD, -2);
        Due.due("STATE", BetweenStops.STATE, -3);
        Due.due("FULL", BetweenStops.FULL, -4);
        Due.due("NO", BetweenStops.NO, -4611686018427387904L);
    }

    private static void face() {
        Class<?> face = BetweenStops.class;
        Due.holds("public and final", Modifier.isPublic(face.getModifiers()) && Modifier.isFinal(face.getModifiers()));
        Set<String> methods = new TreeSet<>();
        for (Method m : face.getDeclaredMethods()) {
            if (Modifier.isPrivate(m.getModifiers())) {
                Due.holds("no private method bears a public name: " + m.getName(), !FACE.contains(" " + m.getName() + "("));
                continue;
            }
            Due.holds("public, not static: " + m, m.getModifiers() == Modifier.PUBLIC);
            String types = String.join(", ", Arrays.stream(m.getParameterTypes()).map(Class::getName).toList());
            methods.add(m.getReturnType().getName() + " " + m.getName() + "(" + types + ")");
        }
        Due.holds("the methods of the document: " + methods, methods.equals(new TreeSet<>(FACE.lines().toList())));
        Constructor<?>[] makers = face.getDeclaredConstructors();
        Due.holds("one constructor", makers.length == 1 && makers[0].getParameterCount() == 0
            && Modifier.isPublic(makers[0].getModifiers()));
        Set<String> fields = new TreeSet<>();
        for (Field f : face.getDeclaredFields()) {
            if (!Modifier.isPrivate(f.getModifiers())) {
                fields.add(f.getType() + " " + f.getName());
            }
        }
        Due.holds("the constants of the document: " + fields,
            fields.equals(new TreeSet<>(Set.of("int NONE", "int BAD", "int STATE", "int FULL", "long NO"))));
    }

    private static void inside() {
        Set<Class<?>> all = new HashSet<>(Arrays.asList(BetweenStops.class.getDeclaredClasses()));
        Due.holds("some twelve classes", all.size() + 1 <= 12);
        for (Class<?> c : all) {
            Due.holds("static, not public: " + c, Modifier.isStatic(c.getModifiers())
                && !Modifier.isPublic(c.getModifiers()) && !Modifier.isProtected(c.getModifiers()));
            Due.holds("none inside " + c, c.getDeclaredClasses().length == 0);
        }
        all.add(BetweenStops.class);
        for (Class<?> c : all) {
            int own = 0;
            for (Field f : c.getDeclaredFields()) {
                boolean isStatic = Modifier.isStatic(f.getModifiers());
                Due.holds("a static field is final: " + f, !isStatic || Modifier.isFinal(f.getModifiers()));
                own += isStatic ? 0 : 1;
            }
            Due.holds("some twenty fields: " + c, own <= 20);
            for (Method m : c.getDeclaredMethods()) {
                Due.holds("seven parameters: " + m, m.getParameterCount() <= 7);
                Due.holds("of its own, not made by the compiler: " + m, !m.isSynthetic());
                Due.holds("no public name inside: " + m, c == BetweenStops.class || !FACE.contains(" " + m.getName() + "("));
            }
        }
    }

    private static void text(String source) {
        String bare = source.replaceAll("(?s)/\\*.*?\\*/", "").replaceAll("//[^\n]*", "").replaceAll("\"[^\"\n]*\"", "\"\"");
        String[] words = {"throw", "throws", "try", "catch", "finally", "synchronized", "assert", "package", "volatile", "transient",
            "native", "strictfp", "float", "double", "Object", "Exception", "var", "sealed", "yield", "instanceof", "equals",
            "hashCode", "toString", "Thread", "System.out", "System.exit", "System.nanoTime", "System.currentTimeMillis", "Random"};
        for (String word : words) {
            Due.holds("no " + word, !Pattern.compile("(?<![\\w.])" + Pattern.quote(word) + "\\b").matcher(bare).find());
        }
        Due.holds("no lambda", !bare.contains("->"));
        Due.holds("no method reference", !bare.contains("::"));
        Due.holds("no Exact", !bare.contains("Exact("));
        Due.holds("no annotation", !bare.contains("@"));
        Due.holds("no text joined by +", !Pattern.compile("\"\\s*\\+|\\+\\s*\"").matcher(bare).find());
        Due.holds("signs 1 to 127", source.chars().allMatch(c -> c == 10 || c >= 32 && c < 127));
        Matcher imports = Pattern.compile("(?m)^import (.*);$").matcher(bare);
        while (imports.find()) {
            Due.holds("import " + imports.group(1), imports.group(1).equals("java.util.Arrays"));
        }
        Matcher calls = Pattern.compile("\\b(Arrays|Math|Integer|Long|System|String|Character)\\.(\\w+)").matcher(bare);
        Set<String> allowed = Set.of("Arrays.fill", "Math.max", "Math.min", "Math.abs", "Integer.bitCount", "System.arraycopy");
        while (calls.find()) {
            Due.holds("library: " + calls.group(), allowed.contains(calls.group()));
        }
        // Objects are made by constructors and with their fields alone, so that a run's room does not fill.
        for (String body : bare.split("\n    \n|\n\n")) {
            boolean makes = Pattern.compile("(?m)^ {8,}\\w+\\[\\w+\\] = new |^ {8,}(?!final |private |int |boolean |Text )[^\n]*\\bnew \\w").matcher(body).find();
            boolean isMaker = body.contains("public BetweenStops()") || body.contains("        Town() {");
            Due.holds("nothing is made in: " + body, !makes || isMaker);
        }
    }
}
