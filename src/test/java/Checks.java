import java.util.function.Supplier;

/** What the tests share: objects to ask, answers compared with those that are due, all that an object holds. */
abstract class Checks {
    /** One call, or some in a row of which the last one answers. */
    interface Call {
        long on(CurveRingsClosed x);
    }

    static final int BAD = -1, STATE = -2, NOT = -3, FULL = -4;
    static final int EMPTY = -11, NO_PLACE = -12, OTHER_SORT = -13, BELOW_ZERO = -14, NO_NUMBER = -15, NO_INT = -16;
    /** What answer gives for a call that throws. */
    static final long THROWS_ARGUMENT = -100001, THROWS_STATE = -100002, THROWS_ARITHMETIC = -100003;
    static final int LEAST = Integer.MIN_VALUE, MOST = Integer.MAX_VALUE;

    static int wrong = 0;
    static int promise = 0;
    private static String sentence = "";
    private static final String STANDARD = holds(standard());
    private static final String BARE = holds(bare());

    /** The sentence of the document that the checks from here on are about. */
    static void says(int number, String words) {
        promise = number;
        sentence = words;
    }

    private static void report(String what) {
        wrong++;
        System.out.println("promise " + promise + (sentence.isEmpty() ? "" : " («" + sentence + "»)") + ": " + what);
    }

    static void due(String call, long got, long want) {
        if (got != want) {
            report(call + " answered " + got + ", due is " + want);
        }
    }

    static void same(String what, String got, String want) {
        if (!got.equals(want)) {
            report(what + ":\n  it holds " + got + "\n  due is   " + want);
        }
    }

    static void end(String name) {
        System.out.println(name + ": " + (wrong == 0 ? "all answers are as due" : wrong + " answers are not as due"));
        System.exit(wrong == 0 ? 0 : 1);
    }

    static CurveRingsClosed fresh(int p, String curve) {
        CurveRingsClosed x = new CurveRingsClosed();
        x.field(p);
        if (curve != null && tell(x, curve) < 0) {
            report("no curve " + curve);
        }
        return x;
    }

    static void feed(CurveRingsClosed x, String text) {
        for (int i = 0; i < text.length(); i += 4) {
            int word = 0;
            int n = Math.min(4, text.length() - i);
            for (int k = 0; k < n; k++) {
                word |= text.charAt(i + k) << 8 * k;
            }
            x.feed(n, word);
        }
    }

    static int tell(CurveRingsClosed x, String text) {
        feed(x, text);
        return x.curve();
    }

    static int lay(CurveRingsClosed x, int shelf, String text) {
        feed(x, text);
        return x.element(shelf);
    }

    /** Lays what text tells, by (x - c)^m. */
    static int lay(CurveRingsClosed x, int shelf, String text, int c, int m) {
        lay(x, shelf, text);
        return x.over(shelf, c, m);
    }

    static long answer(Call call, CurveRingsClosed x) {
        try {
            return call.on(x);
        } catch (IllegalArgumentException e) {
            return e.getClass() == IllegalArgumentException.class ? THROWS_ARGUMENT : 0;
        } catch (IllegalStateException e) {
            return e.getClass() == IllegalStateException.class ? THROWS_STATE : 0;
        } catch (ArithmeticException e) {
            return e.getClass() == ArithmeticException.class ? THROWS_ARITHMETIC : 0;
        }
    }

    /** Numbers that lie just beside lo .. hi, and far away. */
    static int[] beside(int lo, int hi) {
        return new int[] {lo - 1, hi + 1, LEAST, MOST};
    }

    /**
     * On shelves 0 .. 5: x^2 y + 3, y^2 by x, y by (x - 1)^3, a row of 3 ints, a row of 4 longs, nothing; two in the
     * book, y + 2 on the tape, the image of y^2 - x over 7 numbers. RINGS over 0: 1, y, y^2; then y^2 by x; then y by x,
     * y^2 by x^2.
     */
    static CurveRingsClosed standard() {
        CurveRingsClosed x = fresh(7, "y^2-x");
        x.image();
        x.field(5);
        tell(x, "y^3-x^4");
        lay(x, 0, "x^2*y+3");
        lay(x, 1, "y^2", 0, 1);
        lay(x, 2, "y", 1, 3);
        x.note(0);
        x.note(1);
        layRows(x);
        feed(x, "y+2");
        return x;
    }

    /** As the standard one, but without a curve. */
    static CurveRingsClosed bare() {
        CurveRingsClosed x = fresh(7, "y^2-x");
        x.image();
        x.field(5);
        layRows(x);
        feed(x, "y+2");
        return x;
    }

    private static void layRows(CurveRingsClosed x) {
        x.row(3, 0, 3);
        x.row(4, 1, 4);
        for (int i = 0; i < 3; i++) {
            x.put(3, i, 4 - 5 * i);
            x.put(4, i, (1L << 40) + i);
        }
    }

    /** A call that is refused on the standard object: its answer, and that nothing changes. */
    static void refused(String call, long want, Call made) {
        CurveRingsClosed x = standard();
        due(call, answer(made, x), want);
        same(call + " changes nothing", holds(x), STANDARD);
    }

    /** The same on the object without a curve. */
    static void refusedBare(String call, long want, Call made) {
        CurveRingsClosed x = bare();
        due(call + " without a curve", answer(made, x), want);
        same(call + " without a curve changes nothing", holds(x), BARE);
    }

    static void refused(String call, long want, Supplier<CurveRingsClosed> maker, Call made) {
        CurveRingsClosed x = maker.get();
        due(call, answer(made, x), want);
        same(call + " changes nothing", holds(x), holds(maker.get()));
    }

    /** A call on the standard object leaves what other calls leave. */
    static void leaves(String call, long want, Call made, Call others) {
        CurveRingsClosed x = standard();
        due(call, answer(made, x), want);
        CurveRingsClosed twin = standard();
        answer(others, twin);
        same("after " + call, holds(x), holds(twin));
    }

    /** All that an object holds, seen by its own calls; the object is of no use afterwards. */
    static String holds(CurveRingsClosed x) {
        StringBuilder text = new StringBuilder();
        addCurve(x, text);
        text.append(" shelves ").append(x.count(4)).append(' ').append(x.count(5));
        for (int s = 0; s < 6; s++) {
            addShelf(x, s, text);
        }
        text.append(" tape ").append(x.count(3));
        boolean curve = x.count(1) > 0;
        text.append(' ').append(curve ? x.element(5) : x.curve());
        addShelf(x, 5, text);
        text.append(" book ").append(x.count(6));
        for (int k = 0; k < x.count(6); k++) {
            x.copyOut(k, 5);
            addShelf(x, 5, text);
        }
        text.append(" image ").append(x.back());
        addCurve(x, text);
        return text.toString();
    }

    private static void addCurve(CurveRingsClosed x, StringBuilder text) {
        text.append(" p ").append(x.count(0)).append(" n ").append(x.count(1)).append(" degree ").append(x.count(2));
        text.append(" f");
        for (int j = 0; j <= x.count(1) && x.count(1) > 0; j++) {
            for (int i = 0; i + j <= 6; i++) {
                text.append(' ').append(x.front(i, j));
            }
        }
        text.append(" rings ").append(x.open()).append(' ').append(x.genus(1));
    }

    private static void addShelf(CurveRingsClosed x, int s, StringBuilder text) {
        text.append(" | ");
        if ((x.count(4) >> s & 1) == 1) {
            text.append(x.as(s, 0)).append(" at ").append(x.place(s)).append(':');
            for (int j = 0; j < x.count(1); j++) {
                for (int i = 0; i <= 5; i++) {
                    text.append(' ').append(x.at(s, j, i));
                }
            }
        } else if ((x.count(5) >> s & 1) == 1) {
            addRow(x, s, text);
        }
    }

    private static void addRow(CurveRingsClosed x, int s, StringBuilder text) {
        long more = 0;
        for (int i = 0; i < 40 && more != THROWS_STATE; i++) {
            int place = i;
            more = answer(y -> y.get(s, place), x);
            text.append(' ').append(more);
        }
        if (answer(y -> y.get(s, 0), x) != THROWS_STATE) {
            long first = x.get(s, 0);
            text.append(x.put(s, 0, 1L << 40) == NO_INT ? " ints" : " longs");
            x.put(s, 0, first);
        }
    }
}
