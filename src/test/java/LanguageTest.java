import java.lang.reflect.Constructor;
import java.lang.reflect.Field;
import java.lang.reflect.Method;
import java.lang.reflect.Modifier;
import java.nio.file.Files;
import java.nio.file.Paths;
import java.util.Arrays;
import java.util.HashSet;
import java.util.List;
import java.util.Set;
import java.util.TreeSet;
import java.util.regex.Matcher;
import java.util.regex.Pattern;

/** What can be seen of the rules of LANGUAGE.md in the text of the program, and in its classes. */
public final class LanguageTest {
    private static final String FACE = "shape feed rule work fault other so set read write pin unpin burst go flush told "
            + "count latest group page majority where frame word tag order history would quiet split run tune enough ideal "
            + "needs print status";
    private static final List<String> LIBRARY = Arrays.asList("Math.max", "Math.min", "Math.floorMod", "Integer.bitCount",
            "Arrays.fill", "System.arraycopy");
    private static int wrong = 0;

    public static void main(String[] args) throws Exception {
        String path = System.getProperty("nearfar.source", "src/main/java/NearFar.java");
        String source = withoutTexts(new String(Files.readAllBytes(Paths.get(path))));
        text(source);
        methodLengths(source);
        face();
        inside();
        System.out.println(wrong == 0 ? "the rules that can be seen are kept" : wrong + " rules are not kept");
        if (wrong != 0) {
            System.exit(1);
        }
    }

    private static void need(boolean b, String what) {
        if (!b) {
            wrong++;
            System.out.println(what);
        }
    }

    private static String withoutTexts(String source) {
        return source.replaceAll("(?s)/\\*.*?\\*/", "").replaceAll("//[^\n]*", "").replaceAll("\"[^\"\n]*\"", "\"\"");
    }

    private static void text(String source) {
        String[] never = {"\\bpackage\\b", "\\bcatch\\b", "\\bfinally\\b", "\\bsynchronized\\b", "\\bassert\\b", "->", "::",
            "\\binstanceof\\b", "\\bprotected\\b", "\\bstatic \\{", "Exact\\b", "\\bhashCode\\b", "\\btoString\\b",
            "\\bequals\\b", "\"\\s*\\+", "\\+\\s*\"", "\\bdouble\\b", "\\bfloat\\b", "\\bvar\\b", "\\bwhile \\(true\\)",
            "@SuppressWarnings"};
        for (String n : never) {
            need(!Pattern.compile(n).matcher(source).find(), "the program has " + n);
        }
        Matcher imports = Pattern.compile("import ([^;]*);").matcher(source);
        while (imports.find()) {
            String name = imports.group(1);
            need(name.equals("java.util.Arrays") || name.equals("java.util.NoSuchElementException"), "it imports " + name);
        }
        Matcher calls = Pattern.compile("\\b(Math|Integer|Long|Arrays|System)\\.(\\w+)").matcher(source);
        while (calls.find()) {
            need(LIBRARY.contains(calls.group()), "it calls " + calls.group());
        }
        Matcher thrown = Pattern.compile("throw ([^;]*);").matcher(source);
        while (thrown.find()) {
            need(thrown.group(1).matches("new (IllegalState|IllegalArgument|NoSuchElement)Exception\\(\"\"\\)"),
                    "it throws " + thrown.group(1));
        }
    }

    private static void methodLengths(String source) {
        int from = 0;
        String[] lines = source.split("\n");
        for (int k = 0; k < lines.length; k++) {
            if (lines[k].matches(" {4}(?! ).*\\) .*\\{| {8}(?! ).*\\) .*\\{")) {
                from = k;
            }
            need(k - from < 60 || !lines[k].startsWith("            "), "a method is longer than 60 lines: " + lines[from]);
        }
    }

    private static void face() {
        Set<String> due = new TreeSet<>(Arrays.asList(FACE.split(" ")));
        Set<String> found = new TreeSet<>();
        need(Modifier.isFinal(NearFar.class.getModifiers()) && Modifier.isPublic(NearFar.class.getModifiers()), "public, final");
        for (Method m : NearFar.class.getDeclaredMethods()) {
            if (Modifier.isPublic(m.getModifiers())) {
                found.add(m.getName());
            } else {
                need(Modifier.isPrivate(m.getModifiers()), "not private: " + m);
                need(!due.contains(m.getName()), "a private one has the name of a public one: " + m);
            }
        }
        need(found.equals(due), "the face is " + found);
        for (Field f : NearFar.class.getDeclaredFields()) {
            need(Modifier.isPrivate(f.getModifiers()) || f.getName().equals("NONE"), "not private: " + f);
        }
        Constructor<?>[] made = NearFar.class.getDeclaredConstructors();
        need(made.length == 1 && made[0].getParameterCount() == 0, "one constructor");
    }

    private static void inside() {
        Set<String> face = new HashSet<>(Arrays.asList(FACE.split(" ")));
        Class<?>[] classes = NearFar.class.getDeclaredClasses();
        need(classes.length <= 11, classes.length + " classes inside");
        for (Class<?> c : classes) {
            need(Modifier.isStatic(c.getModifiers()) && !Modifier.isPublic(c.getModifiers()), "not static, or public: " + c);
            int fields = 0;
            for (Field f : c.getDeclaredFields()) {
                boolean constant = Modifier.isStatic(f.getModifiers());
                need(!constant || Modifier.isFinal(f.getModifiers()), "static, not final: " + f);
                fields += constant ? 0 : 1;
            }
            need(fields <= 20, c + " has " + fields + " fields");
            for (Method m : c.getDeclaredMethods()) {
                need(m.getParameterCount() <= 7, "more than seven parameters: " + m);
                need(!face.contains(m.getName()), "has the name of a public one: " + m);
            }
        }
    }
}
