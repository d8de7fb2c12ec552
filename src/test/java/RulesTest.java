import java.io.IOException;
import java.io.PrintWriter;
import java.io.StringWriter;
import java.lang.reflect.Array;
import java.lang.reflect.Constructor;
import java.lang.reflect.Field;
import java.lang.reflect.Method;
import java.lang.reflect.Modifier;
import java.nio.file.Files;
import java.nio.file.Path;
import java.util.ArrayList;
import java.util.HashMap;
import java.util.IdentityHashMap;
import java.util.List;
import java.util.Map;
import java.util.Set;
import java.util.TreeSet;
import java.util.regex.Matcher;
import java.util.regex.Pattern;
import java.util.spi.ToolProvider;

/** What of the language's rules can be seen from the source and from the class. */
public final class RulesTest {
    private static final String SOURCE = "src/main/java/CurveRingsClosed.java";
    private static final String FACE = "as(int,int)int at(int,int,int)int back()int basis(int,int,int,int)int"
            + " branches(int,int)int classes(int,int,int)int clear(int)int conductor(int,int)int"
            + " copy(int,int,int,int,int)int copyOut(int,int)int count(int)int curve()int depth(int,int,int)int"
            + " digit(int,int,int,int,int)int disc(int)int draw(int,int)int element(int)int equation(int,int,int)int"
            + " feed(int,int)int field(int)int find(int)int front(int,int)int genus(int)int get(int,int)long image()int"
            + " inverse(int)int last(int)int lies(int)int loads(int,int)int lost(int,int)int multiplicity(int,int)int"
            + " note(int)int open()int order(int)int over(int,int,int)int place(int)int plus(int,int,int)int"
            + " put(int,int,long)int row(int,int,int)int singular(int)int spills(int,int)int"
            + " table(int,int,int,int,int)int times(int,int,int)int weigh(int,int)long whole(int)int wipe()int";
    private static int wrong = 0;

    private static void check(boolean holds, String what) {
        if (!holds) {
            wrong++;
            System.out.println("rule broken: " + what);
        }
    }

    private static void face() {
        Set<String> seen = new TreeSet<>();
        Set<String> names = new TreeSet<>();
        for (Method method : CurveRingsClosed.class.getDeclaredMethods()) {
            if (Modifier.isPrivate(method.getModifiers())) {
                continue;
            }
            check(Modifier.isPublic(method.getModifiers()), "visible " + method.getName());
            names.add(method.getName());
            StringBuilder text = new StringBuilder(method.getName()).append('(');
            for (Class<?> type : method.getParameterTypes()) {
                text.append(text.charAt(text.length() - 1) == '(' ? "" : ",").append(type);
            }
            seen.add(text.append(')').append(method.getReturnType()).toString());
        }
        check(String.join(" ", seen).equals(FACE), "the face is " + seen);
        List<Class<?>> classes = new ArrayList<>(List.of(CurveRingsClosed.class.getDeclaredClasses()));
        check(classes.size() < 12, "classes " + classes.size());
        classes.add(CurveRingsClosed.class);
        for (Class<?> one : classes) {
            check(Modifier.isStatic(one.getModifiers()) || one == CurveRingsClosed.class, "inner " + one);
            for (Method method : one.getDeclaredMethods()) {
                boolean own = one == CurveRingsClosed.class && !Modifier.isPrivate(method.getModifiers());
                check(own || !names.contains(method.getName()), "a face's name again: " + method);
                check(method.getParameterCount() <= 7, "parameters of " + method);
            }
            int fields = 0;
            for (Field field : one.getDeclaredFields()) {
                boolean constant = Modifier.isStatic(field.getModifiers());
                check(!constant || Modifier.isFinal(field.getModifiers()), "static " + field);
                fields += constant ? 0 : 1;
            }
            check(fields <= 20, "fields of " + one + ": " + fields);
        }
        int constants = 0;
        for (Field field : CurveRingsClosed.class.getDeclaredFields()) {
            constants += Modifier.isPrivate(field.getModifiers()) ? 0 : 1;
        }
        check(constants == 4, "visible fields " + constants);
        Constructor<?>[] constructors = CurveRingsClosed.class.getDeclaredConstructors();
        check(constructors.length == 1 && constructors[0].getParameterCount() == 0, "constructors");
        check(Modifier.isFinal(CurveRingsClosed.class.getModifiers()), "final");
    }

    private static void source() throws IOException {
        String text = Files.readString(Path.of(SOURCE));
        check(text.chars().allMatch(b -> b == '\n' || b >= 32 && b < 127), "signs beyond 127");
        String code = text.replaceAll("(?s)/\\*.*?\\*/", "").replaceAll("//[^\n]*", "");
        String[] words = {"import", "package", "try", "catch", "finally", "synchronized", "assert", "volatile", "native",
            "double", "float", "System\\.(?!arraycopy)", "\\w*Exact", "->", "::", "hashCode", "toString", "instanceof",
            "Object", "protected"};
        for (String word : words) {
            Matcher found = Pattern.compile(word.startsWith("-") || word.startsWith(":") ? word : "\\b" + word + "\\b?")
                    .matcher(code);
            check(!found.find(), "word " + word);
        }
        Matcher library = Pattern.compile("\\b(Math|Integer|Long)\\.(\\w+)").matcher(code);
        while (library.find()) {
            boolean listed = Set.of("max", "min", "floorMod", "bitCount").contains(library.group(2));
            check(listed, "library " + library.group());
        }
        Matcher thrown = Pattern.compile("throw new (\\w+)").matcher(code);
        while (thrown.find()) {
            check(Set.of("IllegalArgumentException", "IllegalStateException", "ArithmeticException")
                    .contains(thrown.group(1)), thrown.group());
        }
        methodsAreShort(text.split("\n"));
    }

    private static void methodsAreShort(String[] lines) {
        for (int i = 0; i < lines.length; i++) {
            check(lines[i].length() <= 125, "line " + (i + 1) + " is long");
            String indent = lines[i].replaceAll("\\S.*", "");
            if (!lines[i].matches("\\s+(\\w[\\w\\[\\]]* )+\\w+\\(.*\\{") || lines[i].contains(" class ")) {
                continue;
            }
            int end = i + 1;
            while (!lines[end].equals(indent + "}")) {
                end++;
            }
            check(end - i <= 60, "a method of " + (end - i) + " lines at " + (i + 1));
        }
    }

    private static final Pattern HEAD = Pattern.compile("  (?:[\\w$.\\[\\]]+ )*([\\w$]+)\\(.*;");
    private static final Pattern CALLED = Pattern.compile(".*// (?:Interface)?Method ([^:]+):.*");

    /** Who calls whom, by the compiled class: Class.method, a constructor as Class.<init>. */
    private static Map<String, Set<String>> whoCallsWhom(ToolProvider javap) {
        Map<String, Set<String>> calls = new HashMap<>();
        List<Class<?>> classes = new ArrayList<>(List.of(CurveRingsClosed.class.getDeclaredClasses()));
        classes.add(CurveRingsClosed.class);
        for (Class<?> one : classes) {
            StringWriter text = new StringWriter();
            String path = System.getProperty("java.class.path");
            int code = javap.run(new PrintWriter(text, true), new PrintWriter(System.out, true), "-c", "-p", "-cp", path,
                    one.getName());
            check(code == 0, "javap read " + one);
            Set<String> from = new TreeSet<>();
            for (String line : text.toString().split("\n")) {
                Matcher head = HEAD.matcher(line.stripTrailing());
                Matcher called = CALLED.matcher(line);
                if (head.matches()) {
                    boolean made = head.group(1).equals(one.getName());
                    from = calls.computeIfAbsent(one.getName() + '.' + (made ? "<init>" : head.group(1)), key -> new TreeSet<>());
                } else if (called.matches()) {
                    String name = called.group(1).replace("\"", "");
                    from.add(name.contains(".") ? name : one.getName() + '.' + name);
                }
            }
        }
        return calls;
    }

    private static int deep(String name, Map<String, Set<String>> calls, int above) {
        int most = 0;
        for (String next : above < 40 ? calls.getOrDefault(name, Set.of()) : Set.<String>of()) {
            boolean library = next.startsWith("java");
            most = Math.max(most, library ? 0 : deep(next, calls, above + 1));
        }
        return most + 1;
    }

    private static void calls() {
        ToolProvider javap = ToolProvider.findFirst("javap").orElse(null);
        if (javap == null) {
            System.out.println("RulesTest: there is no javap here; who calls whom was not looked at");
            return;
        }
        Map<String, Set<String>> calls = whoCallsWhom(javap);
        Set<String> listed = Set.of("java/lang/ArithmeticException.<init>", "java/lang/IllegalArgumentException.<init>",
                "java/lang/IllegalStateException.<init>", "java/lang/Integer.bitCount", "java/lang/Math.floorMod",
                "java/lang/Math.max", "java/lang/Math.min", "java/lang/Object.<init>", "java/lang/System.arraycopy");
        calls.forEach((name, all) -> all.forEach(
                next -> check(!next.startsWith("java") || listed.contains(next), name + " calls " + next)));
        String again = "CurveRingsClosed$Reader.readSum";
        check(calls.get("CurveRingsClosed$Reader.readAtom").remove(again), "the one recursion is known");
        calls.keySet().forEach(name -> check(deep(name, calls, 0) <= 8, "calls go deep from " + name));
        check(deep("CurveRingsClosed.genus", calls, 0) > 4, "calls were read");
    }

    private static long objects = 0;
    private static long parts = 0;

    private static void walk(Object object, Map<Object, Boolean> seen) throws IllegalAccessException {
        if (object == null || seen.put(object, true) != null) {
            return;
        }
        objects++;
        Class<?> type = object.getClass();
        if (type.isArray()) {
            parts += Array.getLength(object);
            for (int i = 0; !type.getComponentType().isPrimitive() && i < Array.getLength(object); i++) {
                walk(Array.get(object, i), seen);
            }
            return;
        }
        for (Field field : type.getDeclaredFields()) {
            if (!Modifier.isStatic(field.getModifiers())) {
                parts++;
                field.setAccessible(true);
                if (!field.getType().isPrimitive()) {
                    walk(field.get(object), seen);
                }
            }
        }
    }

    private static void room() throws IllegalAccessException {
        CurveRingsClosed x = new CurveRingsClosed();
        x.draw(5, 4);
        x.genus(2);
        walk(x, new IdentityHashMap<>());
        System.out.println("RulesTest: one object has " + objects + " objects and arrays, " + parts + " parts");
        check(objects < 1000 && parts < 20000, "room");
    }

    public static void main(String[] args) throws IOException, IllegalAccessException {
        face();
        source();
        calls();
        room();
        System.out.println(wrong == 0 ? "RulesTest: all rules hold that can be seen" : wrong + " rules broken");
        System.exit(wrong == 0 ? 0 : 1);
    }
}
