import java.io.IOException;
import java.lang.reflect.Constructor;
import java.lang.reflect.Field;
import java.lang.reflect.Method;
import java.lang.reflect.Modifier;
import java.nio.file.Files;
import java.nio.file.Path;
import java.util.Set;
import java.util.TreeSet;
import java.util.regex.Matcher;
import java.util.regex.Pattern;

/** The face of the class, and those rules of LANGUAGE.md that a program can see. */
public final class LanguageTest {
    private static final Due due = new Due();

    private static final Set<String> FACE = Set.of(
        "base(int)", "put(int,int,int,int)", "join(int,int,int,int)", "turn(int,int)", "shift(int,int,int)",
        "stretch(int,int,int,int)", "shrink(int,int,int,int)", "told(int,int)", "state(int,int,int)",
        "walk(int,int,int)", "has(int,int)", "next(int,int)", "below(int,int)", "alike(int,int,int)",
        "image(int)", "restore(int)", "count(int)");
    private static final Set<String> CONSTANTS = Set.of("UNKNOWN=-1", "OUTSIDE=-2", "AMISS=-3", "FULL=-4", "NONE=-6");
    private static final String[] FORBIDDEN = {
        "\\bthrow\\b", "\\bthrows\\b", "\\btry\\b", "\\bcatch\\b", "\\bfinally\\b", "\\bsynchronized\\b", "\\bassert\\b",
        "->", "::", "\\bvar\\b", "Exact\\b", "\\bdouble\\b", "\\bfloat\\b", "\\bThread\\b", "\\bRandom\\b", "nanoTime",
        "currentTimeMillis", "\\bequals\\b", "\\bhashCode\\b", "\\btoString\\b", "\\bpackage\\b", "static\\s*\\{"};

    public static void main(String[] args) throws IOException {
        face();
        insideClasses();
        String text = Files.readString(Path.of(args.length > 0 ? args[0] : ".", "src/main/java/NumberMachines.java"));
        words(text);
        methodLengths(text);
        due.end();
    }

    private static void face() {
        Class<NumberMachines> face = NumberMachines.class;
        due.is("public and final", face.getModifiers() & (Modifier.PUBLIC | Modifier.FINAL),
                Modifier.PUBLIC | Modifier.FINAL);
        Set<String> seen = new TreeSet<>();
        Set<String> names = new TreeSet<>();
        for (Method method : face.getDeclaredMethods()) {
            if (Modifier.isPublic(method.getModifiers())) {
                due.is(method + " is of int", method.getReturnType() == int.class ? 1 : 0, 1);
                seen.add(written(method));
                names.add(method.getName());
            } else if (!method.isSynthetic()) {
                due.is(method + " is private", Modifier.isPrivate(method.getModifiers()) ? 1 : 0, 1);
            }
        }
        due.is("methods: " + seen, seen.equals(FACE) ? 1 : 0, 1);
        for (Method method : face.getDeclaredMethods()) {
            due.is(method + " bears a name of the face", names.contains(method.getName())
                    && !Modifier.isPublic(method.getModifiers()) ? 1 : 0, 0);
        }
        Constructor<?>[] made = face.getDeclaredConstructors();
        due.is("one constructor", made.length, 1);
        due.is("public, of nothing", Modifier.isPublic(made[0].getModifiers()) ? made[0].getParameterCount() : -1, 0);
        constants(face);
    }

    private static void constants(Class<?> face) {
        Set<String> seen = new TreeSet<>();
        for (Field field : face.getDeclaredFields()) {
            if (Modifier.isPublic(field.getModifiers())) {
                seen.add(field.getName() + "=" + valueOf(field));
            } else {
                due.is(field + " is private", Modifier.isPrivate(field.getModifiers()) ? 1 : 0, 1);
            }
        }
        due.is("constants: " + seen, seen.equals(CONSTANTS) ? 1 : 0, 1);
    }

    private static String valueOf(Field field) {
        try {
            return String.valueOf(field.get(null));
        } catch (IllegalAccessException none) {
            return "none";
        }
    }

    private static String written(Method method) {
        StringBuilder text = new StringBuilder(method.getName()).append('(');
        for (Class<?> type : method.getParameterTypes()) {
            text.append(text.charAt(text.length() - 1) == '(' ? "" : ",").append(type.getName());
        }
        return text.append(')').toString();
    }

    private static void insideClasses() {
        Class<?>[] inside = NumberMachines.class.getDeclaredClasses();
        due.is("at most twelve classes", inside.length < 12 ? 1 : 0, 1);
        look(NumberMachines.class);
        for (Class<?> one : inside) {
            due.is(one + " is static", Modifier.isStatic(one.getModifiers()) ? 1 : 0, 1);
            due.is(one + " is not seen outside", one.getModifiers() & (Modifier.PUBLIC | Modifier.PROTECTED), 0);
            look(one);
        }
    }

    private static void look(Class<?> one) {
        int fields = 0;
        for (Field field : one.getDeclaredFields()) {
            boolean fixed = Modifier.isStatic(field.getModifiers());
            fields += fixed ? 0 : 1;
            due.is(field + " is final, if static", fixed && !Modifier.isFinal(field.getModifiers()) ? 1 : 0, 0);
        }
        due.is(one + " has at most twenty fields", fields <= 20 ? 1 : 0, 1);
        for (Method method : one.getDeclaredMethods()) {
            due.is(method + " takes at most seven", method.getParameterCount() <= 7 ? 1 : 0, 1);
        }
    }

    private static void words(String text) {
        String code = text.replaceAll("(?s)/\\*.*?\\*/", " ").replaceAll("//[^\n]*", " ");
        for (String word : FORBIDDEN) {
            due.is("the code has " + word, Pattern.compile(word).matcher(code).find() ? 1 : 0, 0);
        }
        Matcher imports = Pattern.compile("import\\s+([^;]+);").matcher(code);
        while (imports.find()) {
            due.is("import of " + imports.group(1), imports.group(1).equals("java.util.Arrays") ? 1 : 0, 1);
        }
        due.is("signs are 1 to 127", text.chars().allMatch(sign -> sign > 0 && sign < 128) ? 1 : 0, 1);
    }

    /** A method ends at the first brace that stands as far in as its own first line. */
    private static void methodLengths(String text) {
        Matcher method = Pattern.compile("(?m)^( +)[a-z][^;={}]*\\) \\{$").matcher(text);
        int found = 0;
        while (method.find()) {
            int end = text.indexOf("\n" + method.group(1) + "}", method.end());
            long lines = text.substring(method.start(), end).lines().count();
            due.is(method.group().trim() + " is of " + lines + " lines", lines <= 60 ? 1 : 0, 1);
            found++;
        }
        due.is("methods were found", found > 50 ? 1 : 0, 1);
    }
}
