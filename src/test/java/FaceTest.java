import java.lang.reflect.Constructor;
import java.lang.reflect.Field;
import java.lang.reflect.Member;
import java.lang.reflect.Method;
import java.lang.reflect.Modifier;
import java.nio.file.Files;
import java.nio.file.Path;
import java.util.ArrayList;
import java.util.Collections;
import java.util.HashSet;
import java.util.List;
import java.util.Set;
import java.util.TreeSet;
import java.util.regex.Matcher;
import java.util.regex.Pattern;

/** The public face of the document, and those rules of the language that can be seen from outside. */
public final class FaceTest {
    private static final String FACE = "int row(int,int)|int lay(int,int,int)|int at(int,int)|int tear(int)"
        + "|int copy(int,int,int,int,int)|int mean(int)|int text(int,int)|int put(int,int,int)|int fault(int)"
        + "|int year(int)|int cape(int,int)|int valley(int,int)|int mark(int,int)|int price(int,int)|int hold(int)"
        + "|int rope(int,int)|int rise()|int undo(int)|int sun()|int gained()|int keep(int)|int on(int)|int run(int)"
        + "|int burns(int)|int best(int,int)|int slowest(int,int)|int down(int)|int longest()|int ropes(int)"
        + "|int loose(int,int)|int votes(int,int)|int choice()|int parts(int)|int fits(int,int,int)"
        + "|int slipped(int,int)|int odds(int,int,int)|int lots(int,int)|int asked()|long upper()|long lower()"
        + "|int count(int)|int finding()|int findings(int)|long digest()";
    private static final String CONSTANTS = "BAD=-1|FULL=-2|FINDING=-3|STATE=-4|SPENT=-6|NONE=-9";
    private static final String NOT_ALLOWED = "throw|throws|try|catch|finally|synchronized|assert|protected|native"
        + "|volatile|transient|equals|hashCode|toString|Exception|Error|Object|Random|Thread|System\\.(?!arraycopy)"
        + "|\\w+Exact|->|::|new \\w+\\([^)]*\\) *\\{|static *\\{";

    private static int wrong = 0;

    private static void due(boolean holds, String what) {
        if (!holds) {
            wrong++;
            System.out.println(what);
        }
    }

    private static void same(String what, Set<String> got, Set<String> want) {
        Set<String> missing = new TreeSet<>(want), more = new TreeSet<>(got);
        missing.removeAll(got);
        more.removeAll(want);
        due(missing.isEmpty(), what + " missing: " + missing);
        due(more.isEmpty(), what + " too many: " + more);
    }

    private static Set<String> setOf(String all) {
        Set<String> set = new HashSet<>();
        Collections.addAll(set, all.split("\\|"));
        return set;
    }

    private static String told(Method m) {
        List<String> types = new ArrayList<>();
        for (Class<?> type : m.getParameterTypes()) types.add(type.getName());
        return m.getReturnType().getName() + " " + m.getName() + "(" + String.join(",", types) + ")";
    }

    private static boolean isPrivate(Member m) { return Modifier.isPrivate(m.getModifiers()); }

    private static void face() throws Exception {
        Class<?> c = SunRopes.class;
        due(Modifier.isPublic(c.getModifiers()) && Modifier.isFinal(c.getModifiers()), "the class is not public, final");
        Set<String> methods = new HashSet<>(), names = new HashSet<>();
        for (Method m : c.getDeclaredMethods()) {
            if (!isPrivate(m)) {
                methods.add(told(m));
                names.add(m.getName());
                due(Modifier.isPublic(m.getModifiers()) && !Modifier.isStatic(m.getModifiers()), m + " is not as told");
            }
        }
        same("methods", methods, setOf(FACE));
        Set<String> constants = new HashSet<>();
        for (Field f : c.getDeclaredFields()) {
            if (!isPrivate(f)) {
                constants.add(f.getName() + "=" + f.get(null));
                due(Modifier.isPublic(f.getModifiers()) && Modifier.isFinal(f.getModifiers()), f + " is not as told");
            }
        }
        same("constants", constants, setOf(CONSTANTS));
        Constructor<?>[] made = c.getDeclaredConstructors();
        due(made.length == 1 && made[0].getParameterCount() == 0 && Modifier.isPublic(made[0].getModifiers()),
            "the constructor is not as told");
        for (Class<?> inside : withInside(c)) {
            inside(inside, names);
        }
    }

    private static List<Class<?>> withInside(Class<?> c) {
        List<Class<?>> all = new ArrayList<>();
        all.add(c);
        Collections.addAll(all, c.getDeclaredClasses());
        due(all.size() <= 12, "more than twelve classes");
        return all;
    }

    private static void inside(Class<?> c, Set<String> names) {
        due(c == SunRopes.class || Modifier.isStatic(c.getModifiers()), c + " is not static");
        int fields = 0;
        for (Field f : c.getDeclaredFields()) {
            if (Modifier.isStatic(f.getModifiers())) {
                due(Modifier.isFinal(f.getModifiers()), f + " is static, not final");
            } else {
                fields++;
            }
        }
        due(fields <= 20, c + " has " + fields + " fields");
        for (Method m : c.getDeclaredMethods()) {
            due(m.getParameterCount() <= 7, m + " has more than seven parameters");
            boolean ofFace = c == SunRopes.class && !isPrivate(m);
            due(ofFace || !names.contains(m.getName()), m + " bears the name of a public one");
        }
    }

    private static void source(Path path) throws Exception {
        String text = Files.readString(path);
        String code = text.replaceAll("(?s)/\\*.*?\\*/", "").replaceAll("//[^\n]*", "");
        Matcher m = Pattern.compile("(?<!\\w)(?:" + NOT_ALLOWED + ")").matcher(code);
        while (m.find()) {
            char next = m.end() < code.length() ? code.charAt(m.end()) : ' ';
            boolean partOfWord = Character.isLetterOrDigit(code.charAt(m.end() - 1)) && Character.isLetterOrDigit(next);
            due(partOfWord, "not allowed in the source: " + m.group());
        }
        Matcher imports = Pattern.compile("import ([^;]+);").matcher(code);
        while (imports.find()) {
            due(imports.group(1).matches("java\\.util\\.(Arrays|ArrayList|List)"), "not allowed: " + imports.group());
        }
        due(!Pattern.compile("(?m)^package ").matcher(code).find(), "a package line");
        due(code.chars().allMatch(s -> s < 127), "a sign beyond 126");
        int lines = 0;
        for (String line : text.split("\n")) {
            lines = line.matches("    (    )?[^ /@].*\\{") ? 0 : lines + 1;
            boolean ends = line.matches("    (    )?\\}");
            due(!ends || lines <= 60, "a method of " + lines + " lines that ends by " + line);
        }
    }

    public static void main(String[] args) throws Exception {
        face();
        due(args.length > 0, "the source's path is not told");
        if (args.length > 0) source(Path.of(args[0]));
        System.out.println(wrong == 0 ? "the face is as due" : wrong + " things are not as due");
        if (wrong != 0) System.exit(1);
    }
}
