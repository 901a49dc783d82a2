import java.io.IOException;
import java.lang.reflect.Field;
import java.lang.reflect.Method;
import java.lang.reflect.Modifier;
import java.nio.file.Files;
import java.nio.file.Path;
import java.util.Arrays;
import java.util.Map;
import java.util.TreeMap;
import java.util.regex.Matcher;
import java.util.regex.Pattern;

/** What README.md says of the class is true: each line of its examples, the calls of its table, and the constants. */
public final class ReadmeTest {
    private static final Pattern EXAMPLE = Pattern.compile("(?s)```java\n(.*?)```");
    private static final Pattern LINE =
        Pattern.compile("x\\.([a-z]+)\\(([-0-9, ]+)\\);\\s+// (-?[0-9]+|[A-Z]+): \\S.*");
    private static final Pattern CALL_ROW = Pattern.compile("(?m)^\\| `([a-z]+)\\(([a-z, ]+)\\)` \\|.*\\|([^|]*)\\|$");
    private static final Pattern CONSTANT = Pattern.compile("`([A-Z]+)`(?: \\| | \\()(-[0-9]+)");

    private static final Due due = new Due();

    public static void main(String[] args) throws IOException {
        String text = Files.readString(Path.of(args.length > 0 ? args[0] : ".", "README.md"));
        Map<String, Integer> constants = constants();
        examples(text, constants);
        constantsAreTold(text, constants);
        callsAreTold(text);
        due.end();
    }

    private static Map<String, Integer> constants() {
        Map<String, Integer> constants = new TreeMap<>();
        for (Field field : NumberMachines.class.getFields()) {
            try {
                constants.put(field.getName(), field.getInt(null));
            } catch (IllegalAccessException none) {
                due.is(field + " is seen", 0, 1);
            }
        }
        return constants;
    }

    private static void examples(String text, Map<String, Integer> constants) {
        Matcher example = EXAMPLE.matcher(text);
        int found = 0;
        while (example.find()) {
            String[] lines = example.group(1).split("\n");
            due.is("an example begins with a new object",
                lines[0].equals("NumberMachines x = new NumberMachines();") ? 1 : 0, 1);
            NumberMachines x = new NumberMachines();
            for (int k = 1; k < lines.length; k++) {
                line(x, lines[k], constants);
            }
            found++;
        }
        due.is("examples of README.md", found, 2);
    }

    private static void line(NumberMachines x, String text, Map<String, Integer> constants) {
        Matcher line = LINE.matcher(text);
        if (!line.matches()) {
            due.is("a call and its answer: " + text, 0, 1);
            return;
        }
        String[] parts = line.group(2).split(", ");
        int[] numbers = new int[parts.length];
        for (int k = 0; k < parts.length; k++) {
            numbers[k] = Integer.parseInt(parts[k]);
        }
        String answer = line.group(3);
        Integer want = constants.containsKey(answer) ? constants.get(answer) : Integer.valueOf(answer);
        due.is("README.md: " + text, new Call(line.group(1), numbers).on(x), want);
    }

    private static void constantsAreTold(String text, Map<String, Integer> constants) {
        Map<String, Integer> told = new TreeMap<>();
        Matcher constant = CONSTANT.matcher(text);
        while (constant.find()) {
            told.put(constant.group(1), Integer.valueOf(constant.group(2)));
        }
        due.is("README.md tells of " + told + ", there are " + constants, told.equals(constants) ? 1 : 0, 1);
    }

    /** A row for each call, with as many numbers as it takes; numbers that are all wrong are refused as its end says. */
    private static void callsAreTold(String text) {
        Map<String, Integer> told = new TreeMap<>();
        Matcher row = CALL_ROW.matcher(text);
        while (row.find()) {
            int numbers = row.group(2).split(", ").length;
            told.put(row.group(1), numbers);
            int[] wrong = new int[numbers];
            Arrays.fill(wrong, -101);
            boolean unknown = row.group(3).contains("`UNKNOWN`");
            due.is("README.md: " + row.group(1) + " is refused first with", new Call(row.group(1), wrong)
                .on(new NumberMachines()), unknown ? NumberMachines.UNKNOWN : NumberMachines.OUTSIDE);
        }
        Map<String, Integer> face = new TreeMap<>();
        for (Method method : NumberMachines.class.getDeclaredMethods()) {
            if (Modifier.isPublic(method.getModifiers())) {
                face.put(method.getName(), method.getParameterCount());
            }
        }
        due.is("README.md tells of " + told + ", the face is " + face, told.equals(face) ? 1 : 0, 1);
    }
}
