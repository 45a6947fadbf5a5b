import java.io.IOException;
import java.lang.reflect.Method;
import java.lang.reflect.Modifier;
import java.nio.file.Files;
import java.nio.file.Path;
import java.util.Arrays;
import java.util.HashMap;
import java.util.Map;
import java.util.Set;
import java.util.TreeSet;
import java.util.regex.Matcher;
import java.util.regex.Pattern;

/**
 * Every answer that README.md shows is the class's own: this runs the calls of its Java blocks and
 * of its tables in the order in which they stand there. It reads README.md where it is run.
 */
public final class ReadmeTest {
    private static final Pattern MAKING =
            Pattern.compile("RankFusion (\\w+) = new RankFusion\\((-?\\d+)\\);( +// .+)?");
    private static final String CALL = "(\\w+)\\.(\\w+)\\(([-\\d, ]*)\\)";
    private static final Pattern LINE = Pattern.compile(CALL + "; +// ([-\\w]+)(: .+)?");
    private static final Pattern ROW = Pattern.compile("\\|.*\\| `" + CALL + "` \\| `([-\\w]+)` \\|");
    private static final Pattern ANY_CALL = Pattern.compile(CALL);
    private static final Pattern FORM = Pattern.compile("`(\\w+)\\(([a-z]*(?:, [a-z]+)*)\\)`");
    private static final Pattern CODE = Pattern.compile("`([A-Z]+)`\\s+is\\s+(-?\\d+)");
    private static final Pattern NUMBER = Pattern.compile("\\d+");

    private final Map<String, RankFusion> objects = new HashMap<>();
    private final Map<String, Method> methods = new HashMap<>();
    private final Set<String> shown = new TreeSet<>();

    private ReadmeTest() {
        for (Method method : RankFusion.class.getDeclaredMethods()) {
            if (Modifier.isPublic(method.getModifiers())) {
                methods.put(method.getName(), method);
            }
        }
    }

    public static void main(String[] args) throws IOException, ReflectiveOperationException {
        String text = Files.readString(Path.of("README.md"));
        ReadmeTest test = new ReadmeTest();
        test.readLines(text);
        test.everyMethodIsShown();
        test.everyFormIsTheFace(text);
        test.codesAreTheConstants(text);
        Check.end();
    }

    private void readLines(String text) throws ReflectiveOperationException {
        boolean inJava = false;
        for (String line : text.split("\n")) {
            if (line.startsWith("```")) {
                inJava = line.equals("```java");
            } else if (inJava) {
                readJava(line);
            } else if (ANY_CALL.matcher(line).find()) {
                readRow(line);
            }
        }
    }

    private void readJava(String line) throws ReflectiveOperationException {
        Matcher making = MAKING.matcher(line);
        Matcher call = LINE.matcher(line);
        if (making.matches()) {
            objects.put(making.group(1), new RankFusion(Integer.parseInt(making.group(2))));
        } else if (call.matches()) {
            run(line, call);
            dueDocuments(line, call);
        } else {
            Check.due("a line that this test understands: " + line, line.isEmpty(), true);
        }
    }

    private void readRow(String line) throws ReflectiveOperationException {
        Matcher row = ROW.matcher(line);
        boolean understood = row.matches();
        Check.due("a row that this test understands: " + line, understood, true);
        if (understood) {
            run(line, row);
        }
    }

    /** The groups of the call: the object, the method, its arguments and the answer. */
    private void run(String line, Matcher call) throws ReflectiveOperationException {
        RankFusion x = objects.get(call.group(1));
        Method method = methods.get(call.group(2));
        Integer[] arguments = numbers(call.group(3));
        boolean possible = x != null && method != null && method.getParameterCount() == arguments.length;
        Check.due("a call that the class has: " + line, possible, true);
        if (possible) {
            String got = String.valueOf(method.invoke(x, (Object[]) arguments));
            Check.due(line + " (answered " + got + ") is right", got.equals(valueOf(call.group(4))), true);
            shown.add(method.getName());
        }
    }

    private static Integer[] numbers(String arguments) {
        return Arrays.stream(arguments.split(", "))
                .filter(argument -> !argument.isEmpty())
                .map(Integer::valueOf)
                .toArray(Integer[]::new);
    }

    /** A code stands for its number; a number, true and false stand for themselves. */
    private static String valueOf(String answer) throws ReflectiveOperationException {
        boolean code = Character.isUpperCase(answer.charAt(0));
        return code ? String.valueOf(RankFusion.class.getField(answer).getInt(null)) : answer;
    }

    /** Behind the number of a set stand its documents, which must be the bits of the number. */
    private static void dueDocuments(String line, Matcher call) {
        if (!Set.of("topSet", "pathWinners").contains(call.group(2))) {
            return;
        }
        int set = 0;
        Matcher number = NUMBER.matcher(call.group(5) == null ? "" : call.group(5));
        while (number.find()) {
            set |= 1 << Integer.parseInt(number.group());
        }
        Check.due("the documents of " + line, set, Integer.parseInt(call.group(4)));
    }

    private void everyMethodIsShown() {
        for (String name : methods.keySet()) {
            Check.due("README.md shows an answer of " + name, shown.contains(name), true);
        }
    }

    /** The calls as they are told in general, such as `name(k, d)`, are those of the face. */
    private void everyFormIsTheFace(String text) {
        Set<String> told = new TreeSet<>();
        Matcher form = FORM.matcher(text);
        while (form.find()) {
            Method method = methods.get(form.group(1));
            int parameters = form.group(2).isEmpty() ? 0 : form.group(2).split(", ").length;
            boolean right = method != null && method.getParameterCount() == parameters;
            Check.due("the class has " + form.group(), right, true);
            told.add(form.group(1));
        }
        for (String name : methods.keySet()) {
            Check.due("README.md tells of " + name, told.contains(name), true);
        }
    }

    private void codesAreTheConstants(String text) throws ReflectiveOperationException {
        Set<String> told = new TreeSet<>();
        Matcher code = CODE.matcher(text);
        while (code.find()) {
            String name = code.group(1);
            Check.due("README.md has the number of " + name, code.group(2).equals(valueOf(name)), true);
            told.add(name);
        }
        Check.due("README.md tells BAD, FULL and NONE", told.equals(Set.of("BAD", "FULL", "NONE")), true);
    }
}
