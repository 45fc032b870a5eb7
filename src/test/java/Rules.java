import java.lang.management.ManagementFactory;
import java.lang.reflect.Constructor;
import java.lang.reflect.Field;
import java.lang.reflect.Method;
import java.lang.reflect.Modifier;
import java.nio.file.Files;
import java.nio.file.Path;
import java.util.ArrayList;
import java.util.List;
import java.util.Map;
import java.util.Set;
import java.util.TreeMap;
import java.util.TreeSet;
import java.util.regex.Matcher;
import java.util.regex.Pattern;

/** The document's face, the rules of LANGUAGE.md that can be seen from outside, and the room that a run takes. */
public final class Rules {
    private static final String[] NOT_THERE = {
        "\\bthrow\\b", "\\bthrows\\b", "\\btry\\b", "\\bcatch\\b", "\\bsynchronized\\b", "\\bassert\\b", "\\bimport\\b",
        "\\bpackage\\b", "->", "::", "\\bvar\\b", "\\bequals\\b", "\\bhashCode\\b", "\\btoString\\b", "Exact\\b",
        "\\bObject\\b", "\\bextends\\b", "\\bdouble\\b", "\\bfloat\\b", "static \\{", "\\.\\.\\.", "\"", "@"};
    private static final Set<String> LIBRARY = Set.of("Math.max", "Math.min", "Integer.bitCount", "System.arraycopy");
    private static final Set<String> NO_CALLS = Set.of("if", "for", "while", "switch", "return");
    /** The one method that calls itself; its depth is a ROW's number, so 5 at most. */
    private static final String RECURSION = "addFrom";
    private static final int DEEPEST_CALLS = 8;

    private static int wrong = 0;

    public static void main(String[] args) throws Exception {
        String source = Files.readString(Path.of("src/main/java/TwoViews.java"));
        String document = Files.readString(Path.of("../shared/DOC.md"));
        face(source, document);
        groups(source, document);
        members();
        classesInside();
        String bare = withoutComments(source);
        words(source, bare);
        madeInConstructors(bare);
        lengthsOfMethods(bare);
        depthOfCalls(bare);
        room();
        System.out.println(wrong == 0 ? "all rules are kept" : wrong + " rules are not kept");
        if (wrong != 0) {
            System.exit(1);
        }
    }

    private static void keep(boolean kept, String rule) {
        if (!kept) {
            wrong++;
            System.out.println("not kept: " + rule);
        }
    }

    private static List<String> all(String pattern, String text) {
        List<String> found = new ArrayList<>();
        Matcher matcher = Pattern.compile(pattern).matcher(text);
        while (matcher.find()) {
            found.add(matcher.group(1));
        }
        return found;
    }

    private static String withoutComments(String source) {
        return source.replaceAll("(?s)/\\*.*?\\*/", "").replaceAll("//[^\n]*", "").replaceAll("'.'", "0");
    }

    // ---- the face

    private static void face(String source, String document) {
        String block = document.substring(document.indexOf("```java"), document.indexOf("## Terms"));
        List<String> due = all("(?m)^ {4}(public [^;]*);$", block);
        List<String> there = all("(?m)^ {4}(public [^;{]*?)(?:;| \\{)$", source);
        keep(due.size() == 36, "36 rows in the document's face, not " + due.size());
        keep(there.equals(due), "the document's face in its order: " + due + ", not " + there);
        keep(source.contains("\npublic final class TwoViews {\n") && block.contains("public final class TwoViews {"), "public final");
    }

    /** "Ahead of the calls .. the interface says: ---- .." */
    private static void groups(String source, String document) {
        List<String> rows = all("(?m)^(Ahead of the calls .*)$", document);
        keep(rows.size() == 8, "8 groups of calls, not " + rows.size());
        for (String row : rows) {
            String name = row.replaceAll("^.*the interface says: (.*)\\.$", "$1");
            String[] parts = source.split(Pattern.quote("    // " + name + "\n"), -1);
            keep(parts.length == 2, "a group of its own: " + name);
            if (parts.length == 2) {
                List<String> calls = all("public \\w+ (\\w+)\\(", parts[1].split("    // ---- ")[0]);
                keep(calls.equals(all("`(\\w+)`", row)), name + " stands ahead of its calls, not of " + calls);
            }
        }
    }

    private static void members() {
        Constructor<?>[] constructors = TwoViews.class.getDeclaredConstructors();
        keep(constructors.length == 1 && constructors[0].getParameterCount() == 0
                && Modifier.isPublic(constructors[0].getModifiers()), "one public constructor");
        keep(TwoViews.class.getSuperclass() == Object.class && TwoViews.class.getInterfaces().length == 0, "a class of its own");
        int fields = 0;
        for (Field field : TwoViews.class.getDeclaredFields()) {
            boolean named = Set.of("UNKNOWN", "OUTSIDE", "STATE", "FULL", "NONE").contains(field.getName());
            keep(Modifier.isPublic(field.getModifiers()) == named, "public constants: " + field);
            keep(named || Modifier.isPrivate(field.getModifiers()), "private fields: " + field);
            fields += Modifier.isStatic(field.getModifiers()) ? 0 : 1;
        }
        keep(fields <= 20, "some twenty fields");
        staticsAreConstants(TwoViews.class);
        Set<String> open = new TreeSet<>();
        Set<String> hidden = new TreeSet<>();
        for (Method method : TwoViews.class.getDeclaredMethods()) {
            boolean isPublic = Modifier.isPublic(method.getModifiers());
            (isPublic ? open : hidden).add(method.getName());
            keep(isPublic || Modifier.isPrivate(method.getModifiers()), "only public or private: " + method);
            keep(method.getParameterCount() <= 7, "at most seven parameters: " + method);
        }
        for (Class<?> type : TwoViews.class.getDeclaredClasses()) {
            for (Method method : type.getDeclaredMethods()) {
                hidden.add(method.getName());
            }
        }
        hidden.retainAll(open);
        keep(hidden.isEmpty(), "names of the face are its own: " + hidden);
    }

    private static void staticsAreConstants(Class<?> type) {
        Set<Class<?>> fine = Set.of(int.class, long.class, boolean.class, char.class, String.class, int[].class, long[].class, char[].class, byte[].class);
        for (Field field : type.getDeclaredFields()) {
            if (Modifier.isStatic(field.getModifiers())) {
                keep(Modifier.isFinal(field.getModifiers()) && fine.contains(field.getType()), "a constant: " + field);
            }
        }
    }

    private static void classesInside() {
        Class<?>[] inside = TwoViews.class.getDeclaredClasses();
        keep(inside.length < 12, "some twelve classes");
        for (Class<?> type : inside) {
            int how = type.getModifiers();
            keep(Modifier.isStatic(how) && !Modifier.isPublic(how) && !Modifier.isProtected(how), "static, not public: " + type);
            keep(type.getDeclaredFields().length <= 20, "some twenty fields: " + type);
            keep(type.getDeclaredClasses().length == 0, "no classes inside: " + type);
            staticsAreConstants(type);
            for (Method method : type.getDeclaredMethods()) {
                keep(method.getParameterCount() <= 7, "at most seven parameters: " + method);
            }
        }
    }

    // ---- the source

    private static void words(String source, String bare) {
        keep(source.chars().allMatch(sign -> sign == '\n' || (sign >= ' ' && sign < 127)), "plain signs alone");
        for (String word : NOT_THERE) {
            keep(!Pattern.compile(word).matcher(bare).find(), "no " + word);
        }
        for (String used : all("\\b((?:Math|Integer|Long|System|Arrays|String|List)\\.\\w+)", bare)) {
            keep(LIBRARY.contains(used), "the library: " + used);
        }
        for (String head : all("\\bwhile \\((.*)\\) \\{", bare)) {
            keep(head.matches("\\w+ > 0 && .*"), "a while counts down: " + head);
        }
        keep(!Pattern.compile("\\bdo \\{|for \\(;").matcher(bare).find(), "each loop tells its end first");
    }

    private static void madeInConstructors(String bare) {
        int made = all("\\b(new)\\b", bare).size();
        int known = all("(?m)(^ {4,8}(?:private )?(?:final )?\\w+(?:\\[\\])? \\w+ = new |= new Sheet\\(\\);)", bare).size();
        keep(made == known, "objects are made in constructors alone: " + made + " made, " + known + " there");
    }

    private static void lengthsOfMethods(String bare) {
        for (Map.Entry<String, String> method : bodies(bare).entrySet()) {
            keep(method.getValue().split("\n").length <= 60, "some sixty lines: " + method.getKey());
        }
    }

    /** The bodies of all methods by their names, those of one name together. */
    private static Map<String, String> bodies(String bare) {
        Map<String, String> bodies = new TreeMap<>();
        Matcher head = Pattern.compile("(?m)^( {4}| {8})(?:(?:public|private|static) )*\\w+(?:\\[\\])? (\\w+)\\([^)]*\\) \\{\n").matcher(bare);
        while (head.find()) {
            boolean isMethod = !head.group().trim().matches("(else|return) .*");
            int end = bare.indexOf("\n" + head.group(1) + "}\n", head.end() - 1);
            if (isMethod && end >= 0) {
                bodies.merge(head.group(2), bare.substring(head.end(), end + 1), String::concat);
            }
        }
        return bodies;
    }

    private static void depthOfCalls(String bare) {
        Map<String, String> bodies = bodies(bare);
        bodiesAreFound(TwoViews.class, bodies);
        for (Class<?> type : TwoViews.class.getDeclaredClasses()) {
            bodiesAreFound(type, bodies);
        }
        for (String name : bodies.keySet()) {
            int depth = depthFrom(name, bodies, new ArrayList<>());
            keep(depth <= DEEPEST_CALLS, "calls at most eight deep, not " + depth + ": " + name);
        }
    }

    private static void bodiesAreFound(Class<?> type, Map<String, String> bodies) {
        for (Method method : type.getDeclaredMethods()) {
            keep(bodies.containsKey(method.getName()), "a body of " + method.getName() + " is found");
        }
    }

    private static int depthFrom(String name, Map<String, String> bodies, List<String> open) {
        if (open.contains(name)) {
            keep(name.equals(RECURSION) && open.get(open.size() - 1).equals(name), "no recursion: " + open + " " + name);
            return 0;
        }
        open.add(name);
        int deepest = 0;
        for (String called : new TreeSet<>(all("\\b(\\w+)\\(", bodies.get(name)))) {
            if (bodies.containsKey(called) && !NO_CALLS.contains(called)) {
                deepest = Math.max(deepest, depthFrom(called, bodies, open));
            }
        }
        open.remove(open.size() - 1);
        return deepest + 1;
    }

    // ---- the room

    /** The dearest calls, 512 of them: they make nothing that stays in the room. */
    private static void room() {
        com.sun.management.ThreadMXBean threads = (com.sun.management.ThreadMXBean) ManagementFactory.getThreadMXBean();
        long thread = Thread.currentThread().getId();
        TwoViews x = new TwoViews();
        threads.getThreadAllocatedBytes(thread);
        long before = threads.getThreadAllocatedBytes(thread);
        TwoViews other = new TwoViews();
        long made = threads.getThreadAllocatedBytes(thread) - before;
        keep(made < 40000 && other.answers() == 1, "a new object is small: " + made);
        char[] letters = {'P', '4', '5', '2', '3', '3', '2', '2', '2', '2', '2', '2'};
        for (char letter : letters) {
            x.write(letter);
        }
        for (int turn = 0; turn < 2; turn++) {
            before = threads.getThreadAllocatedBytes(thread);
            for (int i = 0; i < 22; i++) {
                allCalls(x, i);
            }
            made = threads.getThreadAllocatedBytes(thread) - before;
        }
        keep(made < 2000, "calls make no objects: " + made);
    }

    private static void allCalls(TwoViews x, int i) {
        x.sheet();
        x.fault();
        x.setPin(i % 20, 1 + i % 2);
        x.setPin(i * 7 % 20, 2);
        x.setTotal(0, 0, 2);
        x.swap(0, 1, 2, 3);
        x.go(i);
        x.keep(0);
        x.go(0);
        x.reached();
        x.apart(0);
        x.key(1);
        x.judge(3, 200013000260001L);
        x.ask(1);
        x.share(i % 20, true);
        x.loose(5, true);
        x.mended(0);
        x.filled(3);
        x.drawn(20);
        x.see(i % 20, 1);
        x.which(1);
        x.undo();
        x.again(0);
    }
}
