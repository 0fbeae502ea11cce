import java.io.IOException;
import java.lang.reflect.Method;
import java.nio.file.Files;
import java.nio.file.Path;
import java.util.regex.Matcher;
import java.util.regex.Pattern;

/** Makes the calls of README.md in their order, and holds each against the answer behind it; run from the project's root. */
public final class ReadmeTest {
    private static final Pattern CALL = Pattern.compile("x\\.(\\w+)\\(([-0-9, ]*)\\); *// (-?\\d+)(:.*)?");
    private static final Pattern TELL = Pattern.compile("tell\\(x, \"([^\"]*)\"\\); *// (-?\\d+)(:.*)?");
    private static final int FEWEST = 30;

    private static int wrong = 0;

    public static void main(String[] args) throws IOException, ReflectiveOperationException {
        String page = Files.readString(Path.of("README.md"));
        int made = example(page.split("\n"));
        hold("the example makes " + FEWEST + " calls or more", made >= FEWEST);
        namesEachCall(page);
        System.out.println(wrong == 0 ? "all answers are as due" : wrong + " things are not as due");
        if (wrong != 0) System.exit(1);
    }

    private static void hold(String what, boolean is) {
        if (is) return;
        wrong++;
        System.out.println("not so: " + what);
    }

    private static int example(String[] lines) throws ReflectiveOperationException {
        SafeNet x = new SafeNet();
        int made = 0;
        for (String line : lines) {
            Matcher call = CALL.matcher(line), tell = TELL.matcher(line);
            if (call.matches()) {
                due(line, answer(x, call.group(1), call.group(2)), Integer.parseInt(call.group(3)));
                made++;
            } else if (tell.matches()) {
                due(line, tell(x, tell.group(1)), Integer.parseInt(tell.group(2)));
                made++;
            } else {
                hold("a call with its answer: " + line, !line.startsWith("x.") && !line.startsWith("tell("));
            }
        }
        return made;
    }

    private static void due(String line, int got, int want) {
        hold(line + " (answered " + got + ")", got == want);
    }

    private static int answer(SafeNet x, String name, String told) throws ReflectiveOperationException {
        String[] numbers = told.isEmpty() ? new String[0] : told.split(", ");
        Class<?>[] types = new Class<?>[numbers.length];
        Object[] values = new Object[numbers.length];
        for (int i = 0; i < numbers.length; i++) {
            types[i] = int.class;
            values[i] = Integer.valueOf(numbers[i]);
        }
        return (Integer) SafeNet.class.getMethod(name, types).invoke(x, values);
    }

    /** As the page tells it. */
    private static int tell(SafeNet x, String text) {
        for (int from = 0; from < text.length(); from += 8) {
            int n = Math.min(8, text.length() - from);
            long w = 0;
            for (int i = from; i < from + n; i++) w = w << 8 | text.charAt(i);
            x.feed(w, n);
        }
        return x.net();
    }

    private static void namesEachCall(String page) {
        for (Method method : SafeNet.class.getDeclaredMethods()) {
            boolean open = (method.getModifiers() & java.lang.reflect.Modifier.PUBLIC) != 0;
            hold("README.md names " + method.getName(), !open || page.contains("`" + method.getName() + "`"));
        }
        String[] names = {"NONE", "BAD", "STATE", "FULL"};
        int[] numbers = {SafeNet.NONE, SafeNet.BAD, SafeNet.STATE, SafeNet.FULL};
        for (int i = 0; i < names.length; i++) {
            hold("README.md tells " + names[i], page.contains("`" + names[i] + "` (" + numbers[i] + ")"));
        }
    }
}
