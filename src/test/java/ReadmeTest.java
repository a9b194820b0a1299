import java.io.IOException;
import java.lang.reflect.Method;
import java.nio.file.Files;
import java.nio.file.Path;
import java.util.List;
import java.util.regex.Matcher;
import java.util.regex.Pattern;

/** README.md says how to use the class: its example answers as it says, and no call is left out. */
public final class ReadmeTest {
    private static final Pattern CALL = Pattern.compile("x\\.(\\w+)\\(([0-9, ]*)\\);\\s+// (\\w+).*");

    public static void main(String[] args) throws IOException, ReflectiveOperationException {
        String readme = Files.readString(Path.of("README.md"));
        exampleAnswersAsSaid(readme);
        everyCallIsTold(readme);
        Check.finish("ReadmeTest");
    }

    private static void exampleAnswersAsSaid(String readme) throws ReflectiveOperationException {
        BottomUpRewriter x = new BottomUpRewriter();
        List<String> lines = readme.lines().filter(l -> l.startsWith("x.")).toList();
        Check.due("there is an example", !lines.isEmpty(), true);
        for (String line : lines) {
            Matcher call = CALL.matcher(line);
            Check.due("the answer can be read in '" + line + "'", call.matches(), true);
            if (call.matches()) {
                Object answer = answer(x, call.group(1), call.group(2));
                Check.due(line + " answers " + answer, said(call.group(3)).equals(answer.toString()), true);
            }
        }
    }

    private static Object answer(BottomUpRewriter x, String name, String arguments)
            throws ReflectiveOperationException {
        String[] numbers = arguments.isEmpty() ? new String[0] : arguments.split(", ");
        Object[] values = new Object[numbers.length];
        Class<?>[] types = new Class<?>[numbers.length];
        for (int k = 0; k < numbers.length; k++) {
            values[k] = Integer.valueOf(numbers[k]);
            types[k] = int.class;
        }
        return BottomUpRewriter.class.getMethod(name, types).invoke(x, values);
    }

    private static String said(String word) throws ReflectiveOperationException {
        boolean isConstant = Character.isUpperCase(word.charAt(0));
        return isConstant ? "" + BottomUpRewriter.class.getField(word).getInt(null) : word;
    }

    private static void everyCallIsTold(String readme) {
        for (Method m : BottomUpRewriter.class.getMethods()) {
            if (m.getDeclaringClass() == BottomUpRewriter.class) {
                Check.due("a row for " + m.getName(), readme.contains("| `" + m.getName() + "("), true);
            }
        }
    }
}
