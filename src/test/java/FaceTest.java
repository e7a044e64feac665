import java.lang.reflect.Constructor;
import java.lang.reflect.Field;
import java.lang.reflect.Method;
import java.lang.reflect.Modifier;
import java.nio.file.Files;
import java.nio.file.Path;
import java.util.Arrays;
import java.util.Map;
import java.util.TreeSet;
import java.util.regex.Matcher;
import java.util.regex.Pattern;

/** The public face of the document, and what of LANGUAGE.md can be looked at from outside. */
public final class FaceTest {
    private static final String FACE = "bill(III) coin(IIII) count(I) day() drop(I) errand(II) even(II) film(IIII) gain(III)"
        + " give(II) home() image() item(IIIJ) least(IIII) lent(IIIIII) of(II) older(II) order(II) purse(I) restore() rule(I)"
        + " run(I) seen(IIIIIIII) send(IIII) sheet(III) shows(II) stamp(II) told(II) type(JI) where(II) would(IIII)";
    private static final Map<String, Integer> CONSTANTS = Map.of("BAD", -1, "NOT", -2, "FULL", -3, "NONE", -4,
        "NULL", -11, "CAST", -12, "INDEX", -13, "SIZE", -14);
    private static int wrong;

    public static void main(String[] args) throws Exception {
        methods();
        constants();
        classesInside();
        source(Files.readString(Path.of(args.length > 0 ? args[0] : "src/main/java/OldestCoins.java")));
        System.out.println("the face and the language, " + wrong + " faults");
        if (wrong != 0) {
            System.exit(1);
        }
    }

    private static void must(boolean holds, String what) {
        if (!holds) {
            wrong++;
            System.out.println(what);
        }
    }

    private static String told(Method m) {
        StringBuilder s = new StringBuilder(m.getName()).append('(');
        for (Class<?> c : m.getParameterTypes()) {
            s.append(c == int.class ? 'I' : c == long.class ? 'J' : '?');
        }
        return s.append(')').toString();
    }

    private static void methods() {
        TreeSet<String> due = new TreeSet<>(Arrays.asList(FACE.split(" ")));
        TreeSet<String> got = new TreeSet<>();
        TreeSet<String> names = new TreeSet<>();
        due.forEach(d -> names.add(d.substring(0, d.indexOf('('))));
        for (Method m : OldestCoins.class.getDeclaredMethods()) {
            if (Modifier.isPrivate(m.getModifiers())) {
                must(!names.contains(m.getName()), "private and public: " + m.getName());
                must(m.getParameterCount() <= 7, "too many parameters: " + m.getName());
                continue;
            }
            got.add(told(m));
            must(Modifier.isPublic(m.getModifiers()) && !Modifier.isStatic(m.getModifiers()), "not plainly public: " + m);
            must(m.getReturnType() == int.class, "answers no int: " + m);
        }
        must(due.equals(got), "the face is " + got + ", due is " + due);
        Constructor<?>[] constructors = OldestCoins.class.getDeclaredConstructors();
        must(constructors.length == 1 && constructors[0].getParameterCount() == 0
            && Modifier.isPublic(constructors[0].getModifiers()), "one public constructor without arguments");
        must(Modifier.isFinal(OldestCoins.class.getModifiers()), "the class is final");
    }

    private static void constants() throws Exception {
        int found = 0;
        for (Field f : OldestCoins.class.getDeclaredFields()) {
            if (Modifier.isStatic(f.getModifiers())) {
                must(Modifier.isFinal(f.getModifiers()), "static and not final: " + f);
            }
            if (Modifier.isPrivate(f.getModifiers())) {
                continue;
            }
            Integer due = CONSTANTS.get(f.getName());
            must(due != null && Modifier.isPublic(f.getModifiers()) && f.getType() == int.class && f.getInt(null) == due,
                "not of the face: " + f);
            found++;
        }
        must(found == CONSTANTS.size(), "constants: " + found);
    }

    private static void classesInside() {
        TreeSet<String> names = new TreeSet<>();
        for (String d : FACE.split(" ")) {
            names.add(d.substring(0, d.indexOf('(')));
        }
        Class<?>[] inside = OldestCoins.class.getDeclaredClasses();
        must(inside.length <= 12, "more than twelve classes");
        for (Class<?> c : inside) {
            must(Modifier.isStatic(c.getModifiers()) && !Modifier.isPublic(c.getModifiers()), "not static, or public: " + c);
            long own = Arrays.stream(c.getDeclaredFields()).filter(f -> !Modifier.isStatic(f.getModifiers())).count();
            must(own <= 20, "more than twenty fields: " + c);
            for (Method m : c.getDeclaredMethods()) {
                must(!names.contains(m.getName()), "a name of the face: " + m);
                must(m.getParameterCount() <= 7, "too many parameters: " + m);
            }
        }
    }

    private static void source(String text) {
        must(text.chars().allMatch(c -> c == '\n' || c >= 32 && c < 127), "a sign that is not plain");
        String code = text.replaceAll("(?s)/\\*.*?\\*/", "").replaceAll("//[^\n]*", "");
        Matcher m = Pattern.compile("\\b(throw|throws|try|catch|finally|synchronized|assert|import|package|yield|protected"
            + "|[a-z][A-Za-z]*Exact|System\\.(?!arraycopy)|Object|Exception|random|hashCode|toString)\\b|->|::|@").matcher(code);
        while (m.find()) {
            must(false, "not of the language: " + m.group());
        }
        Matcher method = Pattern.compile("(?m)^( +)(?:public |private |static )*(?:int|long|boolean|void) \\w+\\([^;]*?\\{\n"
            + "((?:.*\n)*?)\\1\\}\n").matcher(code);
        int methods = 0;
        while (method.find()) {
            methods++;
            must(method.group(2).lines().count() <= 60, "a method of over sixty lines: " + method.group().strip().lines().findFirst());
        }
        must(methods > 31, "methods found in the source: " + methods);
    }
}
