import java.lang.management.ManagementFactory;
import java.lang.reflect.Constructor;
import java.lang.reflect.Field;
import java.lang.reflect.Method;
import java.lang.reflect.Modifier;
import java.nio.file.Files;
import java.nio.file.Path;
import java.util.ArrayList;
import java.util.List;
import java.util.Set;
import java.util.TreeSet;
import java.util.regex.Matcher;
import java.util.regex.Pattern;

/** The document's face, the rules of LANGUAGE.md that can be seen from outside, and the room that a run takes. */
public final class Rules {
    private static final String[] FACE = {
        "int again(int)", "int answers()", "int apart(int)", "int ask(int)", "int cell(int,int)", "int count(int)",
        "int drawn(int)", "int fault()", "int filled(int)", "int go(int)", "int judge(int,long)", "int keep(int)",
        "int key(int)", "int loose(int,boolean)", "int mended(int)", "int odds(int,boolean)", "int pin(int)",
        "int plane()", "int reached()", "int see(int,int)", "int setPin(int,int)", "int setTotal(int,int,int)",
        "int share(int,boolean)", "int sheet()", "int swap(int,int,int,int)", "int switches(int)", "int test()",
        "int total(int,int)", "int undo()", "int unsee()", "int which(int)", "int wipe()", "int write(int)",
        "long seed(long)"};
    private static final String[] NOT_THERE = {
        "\\bthrow\\b", "\\bthrows\\b", "\\btry\\b", "\\bcatch\\b", "\\bsynchronized\\b", "\\bassert\\b", "\\bimport\\b",
        "\\bpackage\\b", "->", "::", "\\bvar\\b", "\\bequals\\b", "\\bhashCode\\b", "\\btoString\\b", "Exact\\b",
        "\\bObject\\b", "\\bextends\\b", "static \\{", "\\.\\.\\."};

    private static int wrong = 0;

    public static void main(String[] args) throws Exception {
        face();
        source(Files.readString(Path.of("src/main/java/TwoViews.java")));
        room();
        System.out.println(wrong == 0 ? "all rules are kept" : wrong + " rules are not kept");
        if (wrong != 0) {
            System.exit(1);
        }
    }

    private static void keep(boolean kept, String rule) {
        if (!kept) {
            wrong++;
            System.out.println("not kept: " + rule);
        }
    }

    private static void face() {
        keep(Modifier.isPublic(TwoViews.class.getModifiers()) && Modifier.isFinal(TwoViews.class.getModifiers()), "public final");
        Constructor<?>[] constructors = TwoViews.class.getDeclaredConstructors();
        keep(constructors.length == 1 && constructors[0].getParameterCount() == 0
                && Modifier.isPublic(constructors[0].getModifiers()), "one public constructor");
        Set<String> open = new TreeSet<>();
        Set<String> openNames = new TreeSet<>();
        Set<String> hidden = new TreeSet<>();
        for (Method method : TwoViews.class.getDeclaredMethods()) {
            if (Modifier.isPrivate(method.getModifiers())) {
                hidden.add(method.getName());
            } else {
                List<String> types = new ArrayList<>();
                for (Class<?> type : method.getParameterTypes()) {
                    types.add(type.getName());
                }
                open.add(method.getReturnType() + " " + method.getName() + "(" + String.join(",", types) + ")");
                openNames.add(method.getName());
                keep(Modifier.isPublic(method.getModifiers()), "only public or private: " + method);
            }
        }
        keep(open.equals(new TreeSet<>(List.of(FACE))), "the face's methods, not " + open);
        for (Field field : TwoViews.class.getDeclaredFields()) {
            boolean named = Set.of("UNKNOWN", "OUTSIDE", "STATE", "FULL", "NONE").contains(field.getName());
            keep(Modifier.isPublic(field.getModifiers()) == named, "public constants: " + field);
            keep(named || Modifier.isPrivate(field.getModifiers()), "private fields: " + field);
        }
        Class<?>[] inside = TwoViews.class.getDeclaredClasses();
        keep(inside.length < 12, "some twelve classes");
        for (Class<?> type : inside) {
            keep(Modifier.isStatic(type.getModifiers()), "static: " + type);
            keep(type.getDeclaredFields().length <= 20, "some twenty fields: " + type);
            for (Method method : type.getDeclaredMethods()) {
                hidden.add(method.getName());
                keep(method.getParameterCount() <= 7, "at most seven parameters: " + method);
            }
        }
        hidden.retainAll(openNames);
        keep(hidden.isEmpty(), "names of the face are its own: " + hidden);
    }

    private static void source(String text) {
        String bare = text.replaceAll("(?s)/\\*.*?\\*/", "").replaceAll("//[^\n]*", "").replaceAll("'.'", "0");
        for (String word : NOT_THERE) {
            keep(!Pattern.compile(word).matcher(bare).find(), "no " + word);
        }
        Matcher library = Pattern.compile("\\b(Math|Integer|Long|System|Arrays)\\.(\\w+)").matcher(bare);
        while (library.find()) {
            keep(Set.of("Math.max", "Math.min", "Integer.bitCount", "System.arraycopy").contains(library.group()), "the library: " + library.group());
        }
        Matcher made = Pattern.compile("\\bnew\\b").matcher(bare);
        int count = 0;
        while (made.find()) {
            count++;
        }
        Matcher inPlace = Pattern.compile("(?m)^ {4,8}(private )?(final )?\\w+(\\[\\])? \\w+ = new |= new Sheet\\(\\);").matcher(bare);
        int known = 0;
        while (inPlace.find()) {
            known++;
        }
        keep(count == known, "objects are made in constructors alone: " + count + " made, " + known + " there");
        int length = 0;
        for (String line : bare.split("\n")) {
            boolean begins = line.matches(" {4}(private|public) .*\\) \\{") || line.matches(" {8}\\S.*\\) \\{") && !line.matches(" {8}(for|if|while|switch).*");
            length = begins ? 0 : length + 1;
            keep(length < 62 || !line.matches(" {4,8}\\}"), "some sixty lines a method");
        }
    }

    /** The dearest calls, 512 of them: they make nothing that stays in the room. */
    private static void room() {
        com.sun.management.ThreadMXBean threads = (com.sun.management.ThreadMXBean) ManagementFactory.getThreadMXBean();
        long thread = Thread.currentThread().getId();
        TwoViews x = new TwoViews();
        threads.getThreadAllocatedBytes(thread);
        long before = threads.getThreadAllocatedBytes(thread);
        TwoViews other = new TwoViews();
        long made = threads.getThreadAllocatedBytes(thread) - before;
        keep(made < 40000 && other.answers() == 1, "a new object is small: " + made);
        char[] letters = {'P', '4', '5', '2', '3', '3', '2', '2', '2', '2', '2', '2'};
        for (char letter : letters) {
            x.write(letter);
        }
        for (int turn = 0; turn < 2; turn++) {
            before = threads.getThreadAllocatedBytes(thread);
            for (int i = 0; i < 22; i++) {
                allCalls(x, i);
            }
            made = threads.getThreadAllocatedBytes(thread) - before;
        }
        keep(made < 2000, "calls make no objects: " + made);
    }

    private static void allCalls(TwoViews x, int i) {
        x.sheet();
        x.fault();
        x.setPin(i % 20, 1 + i % 2);
        x.setPin(i * 7 % 20, 2);
        x.setTotal(0, 0, 2);
        x.swap(0, 1, 2, 3);
        x.go(i);
        x.keep(0);
        x.go(0);
        x.reached();
        x.apart(0);
        x.key(1);
        x.judge(3, 200013000260001L);
        x.ask(1);
        x.share(i % 20, true);
        x.loose(5, true);
        x.mended(0);
        x.filled(3);
        x.drawn(20);
        x.see(i % 20, 1);
        x.which(1);
        x.undo();
        x.again(0);
    }
}
