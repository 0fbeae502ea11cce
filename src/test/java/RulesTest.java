import java.io.IOException;
import java.lang.reflect.Constructor;
import java.lang.reflect.Field;
import java.lang.reflect.Method;
import java.lang.reflect.Modifier;
import java.nio.file.Files;
import java.nio.file.Path;
import java.util.Arrays;
import java.util.Set;
import java.util.TreeSet;
import java.util.regex.Matcher;
import java.util.regex.Pattern;

/** The face of the document, and the rules of LANGUAGE.md that can be seen from outside; run from the project's root. */
public final class RulesTest {
    private static final String FACE = "sheet(int,int,int) set(int,int,int) copy(int,int,int,int,int) drop(int)"
        + " feed(long,int) net() fault() node(int,int) step(int,int) part(int,int) doubt(int,int,int) borne(int)"
        + " looked(int,int,int) fall(int,int) day(int) shown(int) leaning(int) felling(int,int) hand()"
        + " weigh(int,int,int) pair(int,int,int,int) unweigh() agree() odds(int,int) raise(int) kind(int)"
        + " as(int,int) ask(int,int) trace(int) count(int) status()";
    private static final String OUTSIDE = "\\b(throw|throws|try|catch|finally|synchronized|assert|import|package|Exact|Object"
        + "|Thread|Random|native|volatile|protected|var)\\b|->|::|@";

    private static int wrong = 0;

    private static void hold(String what, boolean is) {
        if (is) return;
        wrong++;
        System.out.println("not so: " + what);
    }

    public static void main(String[] args) throws IOException {
        face();
        for (Class<?> inside : SafeNet.class.getDeclaredClasses()) inside(inside);
        source(Files.readString(Path.of("src/main/java/SafeNet.java")));
        System.out.println(wrong == 0 ? "all rules are kept" : wrong + " rules are not kept");
        if (wrong != 0) System.exit(1);
    }

    private static String told(Method method) {
        StringBuilder types = new StringBuilder();
        for (Class<?> type : method.getParameterTypes()) types.append(types.length() == 0 ? "" : ",").append(type.getName());
        return method.getName() + "(" + types + ")";
    }

    private static void face() {
        hold("the class is public and final", SafeNet.class.getModifiers() == (Modifier.PUBLIC | Modifier.FINAL));
        Set<String> open = new TreeSet<>();
        Set<String> openNames = new TreeSet<>();
        for (Method method : SafeNet.class.getDeclaredMethods()) {
            if (Modifier.isPrivate(method.getModifiers())) continue;
            hold(method + " is public and of int", method.getModifiers() == Modifier.PUBLIC && method.getReturnType() == int.class);
            open.add(told(method));
            openNames.add(method.getName());
        }
        hold("the face is that of the document", open.equals(new TreeSet<>(Arrays.asList(FACE.split(" ")))));
        for (Method method : SafeNet.class.getDeclaredMethods()) {
            boolean hidden = Modifier.isPrivate(method.getModifiers());
            hold(method + " has a name of its own", !hidden || !openNames.contains(method.getName()));
        }
        for (Constructor<?> constructor : SafeNet.class.getDeclaredConstructors()) {
            hold("the constructor", Modifier.isPublic(constructor.getModifiers()) && constructor.getParameterCount() == 0);
        }
        int constants = 0;
        for (Field field : SafeNet.class.getDeclaredFields()) {
            if (Modifier.isPrivate(field.getModifiers())) continue;
            hold(field + " is a constant", field.getModifiers() == (Modifier.PUBLIC | Modifier.STATIC | Modifier.FINAL));
            constants++;
        }
        hold("four constants", constants == 4);
        hold("their numbers", SafeNet.NONE == -1000000 && SafeNet.BAD == -1000001 && SafeNet.STATE == -1000002 && SafeNet.FULL == -1000003);
    }

    private static void inside(Class<?> inside) {
        hold(inside + " is static", Modifier.isStatic(inside.getModifiers()));
        int own = 0;
        for (Field field : inside.getDeclaredFields()) {
            if (Modifier.isStatic(field.getModifiers())) hold(field + " is final", Modifier.isFinal(field.getModifiers()));
            else own++;
        }
        hold(inside + " has some twenty fields", own <= 20);
        for (Method method : inside.getDeclaredMethods()) {
            hold(method + " has a name of its own", !(" " + FACE).contains(" " + method.getName() + "("));
        }
    }

    private static void source(String source) {
        String code = source.replaceAll("(?s)/\\*.*?\\*/", "").replaceAll("//[^\n]*", "").replaceAll("\"[^\"\n]*\"", "\"\"");
        Matcher matcher = Pattern.compile(OUTSIDE).matcher(code);
        while (matcher.find()) hold("without " + matcher.group(), false);
        hold("signs 10, 32 to 126 alone", source.matches("[\n -~]*"));
        int lines = 0;
        for (String line : source.split("\n")) {
            lines++;
            boolean ends = line.equals("    }") || line.equals("        }") || line.isEmpty();
            if (ends) lines = 0;
            hold("a method of some sixty lines", lines < 60);
        }
    }
}
