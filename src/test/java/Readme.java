import java.lang.reflect.Method;
import java.nio.file.Files;
import java.nio.file.Path;
import java.util.Set;
import java.util.TreeSet;
import java.util.regex.Matcher;
import java.util.regex.Pattern;

/** The run of calls that README.md shows: each answers what stands behind it, and no call of the face is left out. */
public final class Readme {
    private static final Pattern TEXT = Pattern.compile("(?m)^for \\(char letter : \"(.*)\"\\.toCharArray\\(\\)\\) \\{$");
    private static final Pattern CALL = Pattern.compile("(?m)^views\\.(\\w+)\\((.*)\\); *// (-?\\d+)");

    private static int wrong = 0;

    public static void main(String[] args) throws ReflectiveOperationException, java.io.IOException {
        String page = Files.readString(Path.of("README.md"));
        Set<String> shown = run(page);
        for (Method method : TwoViews.class.getMethods()) {
            if (method.getDeclaringClass() == TwoViews.class) {
                check(shown.contains(method.getName()), "there is no call of " + method.getName());
                check(page.contains("`" + method.getName() + "`"), method.getName() + " is in no table");
            }
        }
        constants(page);
        System.out.println(wrong == 0 ? shown.size() + " calls are as README.md says" : wrong + " are not");
        if (wrong != 0) {
            System.exit(1);
        }
    }

    private static void check(boolean good, String what) {
        if (!good) {
            wrong++;
            System.out.println("README.md: " + what);
        }
    }

    /** Does the run; the names of all calls in it. */
    private static Set<String> run(String page) throws ReflectiveOperationException {
        TwoViews views = new TwoViews();
        Set<String> shown = new TreeSet<>();
        Matcher text = TEXT.matcher(page);
        check(text.find(), "there is no text of a sheet");
        for (char letter : text.group(1).toCharArray()) {
            views.write(letter);
        }
        shown.add("write");
        Matcher call = CALL.matcher(page);
        while (call.find()) {
            long got = answer(views, call.group(1), call.group(2));
            check(got == Long.parseLong(call.group(3)), call.group() + " answered " + got);
            shown.add(call.group(1));
        }
        return shown;
    }

    private static long answer(TwoViews views, String name, String told) throws ReflectiveOperationException {
        String[] words = told.isEmpty() ? new String[0] : told.split(", ");
        for (Method method : TwoViews.class.getMethods()) {
            if (method.getName().equals(name) && method.getParameterCount() == words.length) {
                Object[] values = new Object[words.length];
                for (int i = 0; i < words.length; i++) {
                    values[i] = value(method.getParameterTypes()[i], words[i]);
                }
                return ((Number) method.invoke(views, values)).longValue();
            }
        }
        check(false, "there is no such call: " + name + "(" + told + ")");
        return 0;
    }

    private static Object value(Class<?> type, String word) {
        if (type == boolean.class) {
            return Boolean.valueOf(word);
        }
        long number = Long.parseLong(word.replace("L", ""));
        return type == long.class ? (Object) number : (Object) (int) number;
    }

    private static void constants(String page) throws ReflectiveOperationException {
        for (String name : new String[] {"UNKNOWN", "OUTSIDE", "STATE", "FULL", "NONE"}) {
            int value = TwoViews.class.getField(name).getInt(null);
            check(page.contains("| " + value + " | `" + name + "` |"), name + " is not " + value);
        }
    }
}
