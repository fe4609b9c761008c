import java.io.IOException;
import java.lang.reflect.Constructor;
import java.lang.reflect.Field;
import java.lang.reflect.Method;
import java.lang.reflect.Modifier;
import java.nio.file.Files;
import java.nio.file.Path;
import java.util.Arrays;
import java.util.HashMap;
import java.util.List;
import java.util.Map;
import java.util.Set;
import java.util.TreeSet;
import java.util.regex.Matcher;
import java.util.regex.Pattern;
import java.util.stream.Collectors;

/** README.md is right: the calls it shows answer what stands beside them, and its tables name the public face. */
public final class ReadmeTest {
    private static final String NEW_OBJECT = "PrivacyLattice table = new PrivacyLattice();";
    private static final Pattern CALL = Pattern.compile("table\\.(\\w+)\\(([^()]*)\\); +// (-?\\w+)(: .+)?");
    private static final Pattern METHOD_LINE = Pattern.compile("\\| `([^`]*\\([^`]*\\))` \\|.*");
    private static final Pattern CONSTANT_LINE = Pattern.compile("\\| `([A-Z_]+)` \\| (-?\\d+) \\|.*");
    private static final Pattern PARAMETER_NAME = Pattern.compile("\\b(int|boolean) \\w+(?=[,)])");

    private final Map<String, Method> methods = new HashMap<>();
    private final Map<String, Integer> constants = new HashMap<>();
    private final Set<String> methodsShown = new TreeSet<>();
    private final Set<String> answersShown = new TreeSet<>();

    private ReadmeTest() throws IllegalAccessException {
        for (Method method : PrivacyLattice.class.getDeclaredMethods()) {
            if (Modifier.isPublic(method.getModifiers())) {
                methods.put(method.getName(), method);
            }
        }
        for (Field field : PrivacyLattice.class.getDeclaredFields()) {
            if (Modifier.isPublic(field.getModifiers())) {
                constants.put(field.getName(), field.getInt(null));
            }
        }
    }

    public static void main(String[] args) throws IOException, ReflectiveOperationException {
        List<String> lines = Files.readAllLines(Path.of("README.md"));
        ReadmeTest test = new ReadmeTest();
        test.shownCallsAnswerAsSaid(lines);
        test.everyMethodIsShown();
        test.tablesNameTheFace(lines);
        Check.finish();
    }

    private void shownCallsAnswerAsSaid(List<String> lines) throws ReflectiveOperationException {
        boolean inBlock = false;
        PrivacyLattice table = null;
        for (int i = 0; i < lines.size(); i++) {
            String line = lines.get(i);
            if (line.startsWith("```")) {
                inBlock = !inBlock;
                table = null;
            } else if (inBlock && line.equals(NEW_OBJECT)) {
                table = new PrivacyLattice();
            } else if (inBlock) {
                shownCallAnswersAsSaid("README.md, line " + (i + 1) + ": ", line, table);
            }
        }
    }

    private void shownCallAnswersAsSaid(String at, String line, PrivacyLattice table)
            throws ReflectiveOperationException {
        Matcher call = CALL.matcher(line);
        // A line of another form would be shown and not looked at.
        if (table == null || !call.matches() || !methods.containsKey(call.group(1))) {
            Check.due(at + line, "no call on an object with its answer", "one");
            return;
        }
        Object[] arguments = Arrays.stream(call.group(2).split(", "))
                .filter(argument -> !argument.isEmpty()).map(Integer::decode).toArray();
        Object got = methods.get(call.group(1)).invoke(table, arguments);
        Check.due(at + line, got.toString(), valueOf(call.group(3)));
        methodsShown.add(call.group(1));
        answersShown.add(call.group(3));
    }

    private String valueOf(String answer) {
        return constants.containsKey(answer) ? constants.get(answer).toString() : answer;
    }

    private void everyMethodIsShown() {
        Check.due("README.md: the methods it shows in use", methodsShown, new TreeSet<>(methods.keySet()));
        // FULL would take seventeen lines; the tests of promise 2 have it.
        Set<String> answersDue = new TreeSet<>(constants.keySet());
        answersDue.remove("FULL");
        answersDue.removeAll(answersShown);
        Check.due("README.md: the constants that no shown call answers", answersDue, Set.of());
    }

    private void tablesNameTheFace(List<String> lines) {
        Set<String> named = new TreeSet<>();
        for (String line : lines) {
            Matcher method = METHOD_LINE.matcher(line);
            if (method.matches()) {
                named.add(PARAMETER_NAME.matcher(method.group(1)).replaceAll("$1").replace(", ", ","));
            }
            Matcher constant = CONSTANT_LINE.matcher(line);
            if (constant.matches()) {
                named.add(constant.group(1) + " = " + constant.group(2));
            }
        }
        Check.due("README.md: what its tables name", named, face());
    }

    private Set<String> face() {
        Set<String> face = new TreeSet<>();
        for (Constructor<?> constructor : PrivacyLattice.class.getConstructors()) {
            face.add(constructor.getName() + types(constructor.getParameterTypes()));
        }
        for (Method method : methods.values()) {
            face.add(method.getReturnType() + " " + method.getName() + types(method.getParameterTypes()));
        }
        constants.forEach((name, value) -> face.add(name + " = " + value));
        return face;
    }

    private static String types(Class<?>[] types) {
        return Arrays.stream(types).map(Class::getName).collect(Collectors.joining(",", "(", ")"));
    }
}
