import java.lang.reflect.InvocationTargetException;
import java.lang.reflect.Method;
import java.util.ArrayList;
import java.util.HashMap;
import java.util.List;
import java.util.Map;
import java.util.Random;

/** Long runs of calls, made by numbers that are always the same, on the class and on Model: all answers agree. */
public final class ModelTest {
    private static final Map<String, Method[]> FACE = new HashMap<>();
    private static final String[] NAMES = {"field", "inverse", "feed", "wipe", "curve", "draw", "front", "disc", "order",
        "multiplicity", "singular", "last", "open", "depth", "digit", "lost", "classes", "table", "branches",
        "conductor", "genus", "element", "basis", "over", "plus", "times", "at", "as", "place", "whole", "equation",
        "lies", "weigh", "note", "find", "copyOut", "row", "put", "get", "copy", "loads", "spills", "clear", "image",
        "back", "count"};

    private final Random random;
    private final int run;
    private final CurveRingsClosed own = new CurveRingsClosed();
    private final Model model = new Model();
    private final List<String> told = new ArrayList<>();
    private int p = 3;

    private ModelTest(int run) {
        this.run = run;
        random = new Random(run * 7919L + 13);
    }

    private static Object answer(Method method, Object object, Object[] args) {
        try {
            return ((Number) method.invoke(object, args)).longValue();
        } catch (InvocationTargetException e) {
            return e.getCause().getClass().getSimpleName();
        } catch (IllegalAccessException e) {
            throw new IllegalStateException(e);
        }
    }

    private long call(String name, long... numbers) {
        Method[] both = FACE.get(name);
        Class<?>[] types = both[0].getParameterTypes();
        Object[] args = new Object[numbers.length];
        StringBuilder text = new StringBuilder(name).append('(');
        for (int i = 0; i < args.length; i++) {
            if (types[i] == long.class) {
                args[i] = numbers[i];
            } else {
                args[i] = (int) numbers[i];
            }
            text.append(i == 0 ? "" : ", ").append(args[i]);
        }
        Object got = answer(both[0], own, args);
        Object due = answer(both[1], model, args);
        told.add(text.append(") = ").append(got).toString());
        if (!got.equals(due)) {
            System.out.println("run " + run + ": " + told.get(told.size() - 1) + ", due is " + due + "; calls so far:");
            told.forEach(line -> System.out.println("  " + line));
            System.exit(1);
        }
        return got instanceof Long ? (Long) got : Long.MIN_VALUE;
    }

    private int below(int n) {
        return random.nextInt(n);
    }

    /** 0 .. n - 1, now and then one beside that. */
    private int about(int n) {
        int[] beside = {-1, n, -1, n, Integer.MIN_VALUE, Integer.MAX_VALUE};
        return below(25) == 0 ? beside[below(beside.length)] : below(n);
    }

    private void feed(String text) {
        for (int i = 0; i < text.length(); i += 4) {
            int word = 0;
            int n = Math.min(4, text.length() - i);
            for (int j = 0; j < n; j++) {
                word |= text.charAt(i + j) << 8 * j;
            }
            call("feed", n, word);
        }
    }

    private String pick(String... texts) {
        return texts[below(texts.length)];
    }

    private String x() {
        int c = below(4);
        return c == 0 || below(2) == 0 ? "x" : "(x-" + c + ")";
    }

    private String sparse(int n, String x) {
        StringBuilder text = new StringBuilder("y^" + n);
        int terms = 1 + below(4);
        for (int t = 0; t < terms; t++) {
            int j = below(n);
            int i = below(7 - j);
            text.append(pick("+", "-")).append(1 + below(6)).append("*").append(x).append("^").append(i);
            text.append("*y^").append(j);
        }
        return text.toString();
    }

    private String lines(int n) {
        StringBuilder text = new StringBuilder();
        int left = 6 - n;
        for (int t = 0; t < n; t++) {
            int i = 1 + below(1 + Math.max(0, left));
            left -= i - 1;
            text.append(t == 0 ? "" : "*").append("(y-");
            text.append(below(7)).append("*").append(x()).append("^").append(Math.max(1, i));
            text.append(below(3) == 0 ? "-" + below(7) : "").append(")");
        }
        if (left > 0 && below(2) == 0) {
            text.append("+").append(x()).append("^").append(4 + below(3));
        }
        return text.toString();
    }

    /** Branches that stay together for long, about a line or parabola: bases with many numbers below their y^j. */
    private String bundle(int n) {
        String x = x();
        String line = "(y-" + below(7) + "-" + below(7) + "*" + x
                + (n < 4 ? "-" + below(7) + "*" + x + "^2" : "") + (n < 3 ? "-" + below(7) + "*" + x + "^3" : "") + ")";
        String more = pick("+", "-") + (1 + below(6)) + "*" + x + "^" + (4 + below(3));
        return switch (below(6)) {
            case 4, 5 -> parting(n, "(y-" + below(7) + "-" + below(7) + "*" + x, x);
            case 0 -> line + "^" + n + more;
            case 1 -> line + "^" + n + "+" + (1 + below(6)) + "*" + x + "^" + (2 + below(3)) + "*" + line + more;
            case 2 -> line + "^" + n + "+" + (1 + below(6)) + "*" + x + "^" + (2 + below(2)) + "*y^" + below(3) + more;
            default -> "((y-" + below(7) + "-" + below(7) + "*" + x + ")^2-" + below(7) + "*" + x + "^3)^2" + more;
        };
    }

    /** Factors that begin alike and part later, of degree 6 at most together. */
    private String parting(int n, String begin, String x) {
        int left = 6 - n;
        StringBuilder text = new StringBuilder();
        for (int t = 0; t < n; t++) {
            int degree = t == n - 1 ? 1 + left : 1 + below(left + 1);
            left -= degree - 1;
            text.append(t == 0 ? "" : "*").append(begin);
            text.append(degree > 1 ? "-" + below(7) + "*" + x + "^" + degree : "");
            text.append(degree > 2 ? "-" + below(7) + "*" + x + "^2" : "").append(")");
        }
        return text.toString();
    }

    private String curveText() {
        int n = 2 + below(3);
        return switch (below(11)) {
            case 8, 9, 10 -> bundle(n);
            case 0, 1, 2 -> sparse(n, x());
            case 3, 4 -> lines(n);
            case 5 -> "(y^2-" + x() + "^3)^2-" + (1 + below(6)) + "*x^" + (3 + below(3)) + "*y";
            case 6 -> "(y^2+" + below(7) + "*" + x() + "^" + (1 + below(3)) + ")*(y" + pick("", "^2") + "-" + below(7) + "*x^"
                    + (1 + below(4)) + ")" + pick("", "+x^6", "+x^5", "+x^4*y");
            default -> noise();
        };
    }

    private String noise() {
        StringBuilder text = new StringBuilder();
        int size = 1 + below(12);
        for (int i = 0; i < size; i++) {
            text.append(pick("x", "y", "x", "y", "+", "-", "*", "^", "^2", "^3", "(", ")", " ", "1", "12", "123", "4567",
                    "*(", "+x", "*y", "z", "^7", "^006", "\u00e9", "(x+y)", "y^2"));
        }
        return text.toString();
    }

    private String elementText() {
        return switch (below(6)) {
            case 0 -> noise();
            case 1 -> "y";
            case 2 -> "y^" + below(7) + "+" + x() + "^" + below(7);
            case 3 -> x() + "^" + below(4) + "*y^" + below(3) + "-" + below(9) + "*y+" + below(99);
            case 4 -> "(" + x() + "+y)^" + below(7);
            default -> below(200) + "*x*y-" + x() + "^2";
        };
    }

    private void newCurve() {
        if (below(3) == 0) {
            call("draw", random.nextInt(), 1 + below(5));
        } else {
            feed(curveText());
            call("curve");
        }
    }

    private int numberOf(String what) {
        return switch (what) {
            case "shelf" -> about(6);
            case "c" -> below(3) == 0 ? about(p) : below(2);
            case "k" -> below(4) == 0 ? about(4) : below(2);
            case "j" -> below(8) == 0 ? about(4) : below(3);
            case "bit" -> about(2);
            case "m" -> about(below(3) == 0 ? 21 : 4);
            case "both" -> about(below(2) == 0 ? 16 : 7);
            default -> throw new IllegalStateException(what);
        };
    }

    private long[] numbers(String... kinds) {
        long[] args = new long[kinds.length];
        for (int i = 0; i < kinds.length; i++) {
            args[i] = numberOf(kinds[i]);
        }
        return args;
    }

    private void ringCall() {
        int c = numberOf("c");
        long top = call("last", c);
        int k = top > 0 ? about((int) top + 1) : numberOf("k");
        switch (below(10)) {
            case 0 -> call("depth", c, k, numberOf("j"));
            case 1, 2 -> call("digit", c, k, numberOf("j"), numberOf("j"), about(below(2) == 0 ? 21 : 5));
            case 3 -> call("lost", c, k);
            case 4 -> call("classes", c, k, numberOf("bit"));
            case 5, 6 -> call("table", c, k, numberOf("both"), numberOf("j"), about(below(4) == 0 ? 61 : 4));
            case 7 -> call("branches", c, numberOf("c"));
            case 8 -> call("conductor", c, numberOf("bit"));
            default -> {
                if (p < 7) {
                    call("open");
                }
            }
        }
    }

    /** Every number that the rings over c tell. */
    private void allOfRings(int c, int n) {
        long top = call("last", c);
        call("conductor", c, 0);
        call("conductor", c, 1);
        for (int d = 0; d < p; d++) {
            call("branches", c, d);
        }
        for (int k = 0; k <= top + 1; k++) {
            call("lost", c, k);
            call("classes", c, k, 0);
            call("classes", c, k, 1);
            for (int j = 0; j < n; j++) {
                call("depth", c, k, j);
                for (int i = 0; i < n; i++) {
                    for (int m = 0; m <= 12; m++) {
                        call("digit", c, k, j, i, m);
                    }
                    for (int l = 0; l < n; l++) {
                        call("table", c, k, 4 * i + j, l, below(8));
                    }
                }
            }
        }
    }

    private void curveCall() {
        switch (below(7)) {
            case 0 -> call("front", about(7), about(7));
            case 1 -> call("disc", about(below(2) == 0 ? 41 : 12));
            case 2 -> call("order", numberOf("c"));
            case 3 -> call("multiplicity", numbers("c", "c"));
            case 4 -> call("singular", numberOf("c"));
            case 5 -> call("inverse", random.nextInt());
            default -> call("genus", about(3));
        }
    }

    /** Elements of about the DEGREE and the m that there is just ROOM for. */
    private void wideCall(int shelf) {
        int other = numberOf("shelf");
        feed(pick("", x() + "+") + x() + "^" + (3 + below(4)) + pick("", "*y", "+y", "+1"));
        call("element", shelf);
        for (int k = 0; k < 3; k++) {
            call(pick("times", "times", "plus"), shelf, below(3) == 0 ? other : shelf, shelf);
        }
        call("over", shelf, below(2), 17 + below(5));
        feed(x() + "^" + below(7) + pick("", "*y", "+y", "+1"));
        call("element", other);
        call("over", other, below(2), below(21));
        call(pick("times", "plus"), shelf, other, pick("a", "b").equals("a") ? shelf : other);
        call(pick("note", "find", "lies", "whole", "place"), pick("a", "b").equals("a") ? shelf : other);
        call("at", shelf, below(3), 20 + below(11));
        call("equation", shelf, 1 + below(3), below(150));
        call("copyOut", about(7), shelf);
    }

    private void elementCall() {
        int shelf = numberOf("shelf");
        if (below(12) == 0) {
            wideCall(shelf);
            return;
        }
        switch (below(16)) {
            case 0 -> {
                feed(elementText());
                call("element", shelf);
            }
            case 1, 2 -> call("basis", shelf, numberOf("c"), numberOf("k"), numberOf("j"));
            case 3 -> call("over", shelf, numberOf("c"), numberOf("m"));
            case 4, 5 -> call("plus", numbers("shelf", "shelf", "shelf"));
            case 6, 7 -> call("times", numbers("shelf", "shelf", "shelf"));
            case 8 -> call("at", shelf, numberOf("j"), about(31));
            case 9 -> call("as", shelf, numberOf("bit"));
            case 10 -> call(pick("place", "whole"), shelf);
            case 11 -> call("equation", shelf, 1 + numberOf("j"), about(below(4) == 0 ? 200 : 12));
            case 12, 13 -> call("lies", shelf);
            case 14 -> call("weigh", shelf, below(3) == 0 ? random.nextInt() : about(3) - 1);
            default -> {
                call(pick("note", "find"), shelf);
                call("copyOut", about(3), shelf);
            }
        }
    }

    private long someLong() {
        return switch (below(4)) {
            case 0 -> random.nextLong();
            case 1 -> (long) Integer.MIN_VALUE - below(2);
            case 2 -> (long) Integer.MAX_VALUE + below(2);
            default -> below(20) - 10;
        };
    }

    private void rowCall() {
        int shelf = numberOf("shelf");
        switch (below(9)) {
            case 0 -> call("row", shelf, numberOf("bit"), below(5) == 0 ? below(60) - 10 : below(41));
            case 1, 2 -> call("put", shelf, about(below(2) == 0 ? 40 : 10), someLong());
            case 3 -> call("get", shelf, about(below(2) == 0 ? 40 : 10));
            case 4 -> call("copy", shelf, about(8), numberOf("shelf"), about(8), about(12));
            case 5 -> call("loads", numbers("shelf", "shelf"));
            case 6 -> call("spills", numbers("shelf", "shelf"));
            case 7 -> call("copy", shelf, about(40), shelf, about(40), below(5) == 0 ? random.nextInt() : about(40));
            default -> {
                if (below(3) == 0) {
                    call("clear", shelf);
                }
            }
        }
    }

    private void rareCall() {
        switch (below(12)) {
            case 0 -> call("image");
            case 1 -> {
                call("back");
                p = (int) call("count", 0);
            }
            case 2 -> {
                if (below(4) == 0) {
                    call("field", new int[] {2, 3, 5, 7, 4, 0}[below(6)]);
                    p = (int) call("count", 0);
                    newCurve();
                }
            }
            case 3 -> newCurve();
            case 4 -> call("wipe");
            case 5 -> call("feed", about(5), random.nextInt());
            default -> call("count", about(7));
        }
    }

    private void go(int calls, int field) {
        call("field", field);
        p = (int) call("count", 0);
        for (int tries = 0; tries < 8 && call("count", 1) == 0; tries++) {
            newCurve();
        }
        while (told.size() < calls) {
            switch (below(10)) {
                case 0 -> curveCall();
                case 1, 2 -> ringCall();
                case 3, 4, 5, 6 -> elementCall();
                case 7, 8 -> rowCall();
                default -> rareCall();
            }
        }
    }

    /** Curves over which a new b_j has numbers to take off by way of another b_i with numbers below its y^i. */
    private static final String[] TANGLED = {
        "2 (y-1-x)^4+x^2*y^2+x^2+x^4*y", "2 (y-1-x)^4+x^2*y^3", "2 (y-1-x)^4+x^4*y+x^2", "2 (y-x)^4+x^5*y",
        "2 (y-1-x)^4+x^2*y^2+x^5*y+x^4*y^2", "3 (y-2)^4+x^3*y+2*x^3*y^3", "5 ((y-1-2*x)^2-4*x^2)^2+4*x^4+x^4*y",
        "5 (y-3-4*x)^4+x^2*y", "5 (y-2*x)^4+2*x^3*y^3", "7 ((y-3-2*x)^2-4*x^2)^2+2*x^4+4*x^4*y",
        "7 (y-2-4*x)^4+x^2*y", "7 (y-6*x)^4+3*x^3*y^3", "7 (y-1-x-x^2)^3-x^6"};

    private void goRings(int field, String text) {
        call("field", field);
        p = (int) call("count", 0);
        if (text != null) {
            feed(text);
            call("curve");
        }
        for (int tries = 0; tries < 20 && call("count", 1) == 0; tries++) {
            newCurve();
        }
        int n = (int) call("count", 1);
        if (n == 0) {
            return;
        }
        for (int i = 0; i <= 30; i++) {
            call("disc", i);
        }
        for (int c = 0; c < p; c++) {
            call("order", c);
            call("singular", c);
            if (c < 2 || call("order", c) > 1) {
                allOfRings(c, n);
            }
        }
        if (p < 7) {
            call("open");
            call("genus", 2);
        }
    }

    public static void main(String[] args) {
        for (String name : NAMES) {
            FACE.put(name, new Method[] {find(CurveRingsClosed.class, name), find(Model.class, name)});
        }
        int runs = args.length > 0 ? Integer.parseInt(args[0]) : 160;
        int from = args.length > 1 ? Integer.parseInt(args[1]) : 0;
        long calls = 0;
        int[] fields = {2, 3, 2, 3, 5, 2, 3, 2, 5, 3, 2, 7};
        for (int run = from; run < from + runs; run++) {
            ModelTest test = new ModelTest(run);
            if (run % 2 == 0) {
                test.go(400, fields[run / 2 % fields.length]);
            } else {
                test.goRings(fields[run / 2 % fields.length], null);
            }
            calls += test.told.size();
        }
        for (int run = 0; run < TANGLED.length; run++) {
            ModelTest test = new ModelTest(-1 - run);
            test.goRings(TANGLED[run].charAt(0) - '0', TANGLED[run].substring(2));
            calls += test.told.size();
        }
        System.out.println("ModelTest: " + runs + " runs, " + calls + " calls agree");
    }

    private static Method find(Class<?> owner, String name) {
        for (Method method : owner.getDeclaredMethods()) {
            boolean shared = owner == CurveRingsClosed.class || method.getParameterCount() == countOf(name);
            if (method.getName().equals(name) && shared && !java.lang.reflect.Modifier.isStatic(method.getModifiers())) {
                return method;
            }
        }
        throw new IllegalStateException(name);
    }

    private static int countOf(String name) {
        return find(CurveRingsClosed.class, name).getParameterCount();
    }
}
