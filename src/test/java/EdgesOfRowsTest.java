/** Each sentence of the document that names an edge: rows, what goes between rows and elements, the image, counts. */
public final class EdgesOfRowsTest extends Checks {
    private static final long[] NO_INTS = {1L << 31, -(1L << 31) - 1, 1L << 32, Long.MAX_VALUE, Long.MIN_VALUE};

    public static void main(String[] args) {
        rowsRefused();
        rowsLaid();
        puts();
        putValues();
        gets();
        copiesRefused();
        copyPlaces();
        copyOverlaps();
        loadsRefused();
        loadSizes();
        loadValues();
        spillsRefused();
        spillSizes();
        clears();
        images();
        backs();
        counts();
        end("EdgesOfRowsTest");
    }

    private static void rowsRefused() {
        says(38, "BAD: SHELF, SORT, n above 40, all ahead of -14");
        for (int n : new int[] {0, 40, 41, -1, LEAST, MOST}) {
            for (int s : beside(0, 5)) {
                refused("row", BAD, x -> x.row(s, 0, n));
            }
            for (int sort : beside(0, 1)) {
                refused("row", BAD, x -> x.row(0, sort, n));
                refused("row", BAD, x -> x.row(5, sort, n));
            }
        }
        for (int s = 0; s < 6; s++) {
            int shelf = s;
            for (int n : new int[] {41, 42, 128, MOST}) {
                refused("row of " + n, BAD, x -> x.row(shelf, 0, n));
                refused("row of " + n, BAD, x -> x.row(shelf, 1, n));
            }
            says(38, "-14: a size below 0");
            for (int n : new int[] {-1, -2, -40, LEAST}) {
                refused("row of " + n, BELOW_ZERO, x -> x.row(shelf, 0, n));
                refusedBare("row of " + n, BELOW_ZERO, x -> x.row(shelf, 1, n));
            }
        }
    }

    private static void rowsLaid() {
        says(38, "A SHELF gets a ROW of a SORT with n numbers (0 .. 40), 0 at first: 1");
        for (int s = 0; s < 6; s++) {
            int shelf = s;
            for (int n : new int[] {0, 1, 39, 40}) {
                for (int sort = 0; sort < 2; sort++) {
                    CurveRingsClosed x = standard();
                    x.row(shelf, 1 - sort, 40);
                    for (int i = 0; i < 40; i++) {
                        x.put(shelf, i, -1 - i);
                    }
                    due("row(" + s + ", " + sort + ", " + n + ")", x.row(shelf, sort, n), 1);
                    due("count(4)", x.count(4), 7 & ~(1 << s));
                    due("count(5)", x.count(5), 24 | 1 << s);
                    for (int i = 0; i < n; i++) {
                        due("number " + i, x.get(shelf, i), 0);
                    }
                    due("no number behind", answer(y -> y.get(shelf, n), x), THROWS_STATE);
                    due("SORT", x.put(shelf, n - 1, 1L << 31), n == 0 ? NO_PLACE : sort == 0 ? NO_INT : 1);
                }
            }
        }
        says(38, "without a CURVE too");
        CurveRingsClosed x = new CurveRingsClosed();
        due("row", x.row(0, 0, 1), 1);
        due("put", x.put(0, 0, 5), 1);
        due("get", x.get(0, 0), 5);
        due("copy", x.copy(0, 0, 0, 0, 1), 1);
        due("clear", x.clear(0), 1);
    }

    private static void puts() {
        for (int s : beside(0, 5)) {
            says(39, "BAD");
            refused("put", BAD, x -> x.put(s, 0, 0));
            refused("put", BAD, x -> x.put(s, -1, 1L << 40));
            refusedBare("put", BAD, x -> x.put(s, 0, 0));
        }
        for (int i : new int[] {0, -1, 40, LEAST, MOST}) {
            says(39, "-11, ahead of -12 and -16");
            refused("put", EMPTY, x -> x.put(5, i, 1L << 40));
            says(39, "-13: an ELEMENT, ahead of -12 and -16");
            refused("put", OTHER_SORT, x -> x.put(0, i, 1L << 40));
            refused("put", OTHER_SORT, x -> x.put(1, i, 0));
        }
        says(39, "-12: no such place of a ROW, ahead of -16");
        for (int i : beside(0, 2)) {
            refused("put(3, " + i + ")", NO_PLACE, x -> x.put(3, i, 7));
            refused("put(3, " + i + ")", NO_PLACE, x -> x.put(3, i, 1L << 40));
        }
        for (int i : beside(0, 3)) {
            refused("put(4, " + i + ")", NO_PLACE, x -> x.put(4, i, 7));
        }
        says(39, "-16: v is no int, the ROW is of ints");
        for (long v : NO_INTS) {
            for (int i = 0; i < 3; i++) {
                int place = i;
                refused("put(3, " + i + ", " + v + ")", NO_INT, x -> x.put(3, place, v));
            }
        }
    }

    private static void putValues() {
        says(39, "Number i of a ROW becomes v: 1");
        CurveRingsClosed x = new CurveRingsClosed();
        x.row(0, 0, 40);
        x.row(1, 1, 40);
        x.row(2, 0, 0);
        int[] ints = {0, 1, -1, MOST, LEAST, MOST - 1, LEAST + 1};
        for (int i : new int[] {0, 1, 38, 39}) {
            for (int v : ints) {
                due("put", x.put(0, i, v), 1);
                due("get", x.get(0, i), v);
                due("the next stays", x.get(0, (i + 20) % 40), 0);
            }
            for (long v : NO_INTS) {
                due("put", x.put(1, i, v), 1);
                due("get", x.get(1, i), v);
                due("the next stays", x.get(1, (i + 20) % 40), 0);
            }
        }
        says(39, "-12 where the ROW has no number");
        for (int i : new int[] {0, -1, 1, LEAST, MOST}) {
            due("put", x.put(2, i, 0), NO_PLACE);
            due("get", answer(y -> y.get(2, i), x), THROWS_STATE);
        }
    }

    private static void gets() {
        for (int i : new int[] {0, -1, 3, LEAST, MOST}) {
            says(40, "IllegalArgumentException: no such SHELF");
            for (int s : beside(0, 5)) {
                refused("get", THROWS_ARGUMENT, x -> x.get(s, i));
                refusedBare("get", THROWS_ARGUMENT, x -> x.get(s, i));
            }
            says(40, "IllegalStateException: no ROW on it");
            refused("get of nothing", THROWS_STATE, x -> x.get(5, i));
            refused("get of a POLYNOMIAL", THROWS_STATE, x -> x.get(0, i));
            refused("get of a FRACTION", THROWS_STATE, x -> x.get(1, i));
        }
        says(40, "IllegalStateException: no such number");
        for (int i : beside(0, 2)) {
            refused("get(3, " + i + ")", THROWS_STATE, x -> x.get(3, i));
            refusedBare("get(3, " + i + ")", THROWS_STATE, x -> x.get(3, i));
        }
        for (int i : beside(0, 3)) {
            refused("get(4, " + i + ")", THROWS_STATE, x -> x.get(4, i));
        }
        says(40, "Number i of a ROW");
        CurveRingsClosed x = standard();
        for (int i = 0; i < 3; i++) {
            due("an int", x.get(3, i), 4 - 5 * i);
            due("a long", x.get(4, i), (1L << 40) + i);
        }
        due("0 at first", x.get(4, 3), 0);
    }

    private static void copiesRefused() {
        for (int n : new int[] {0, 1, -1, MOST, LEAST}) {
            says(41, "BAD: SHELVES, ahead of all");
            for (int s : beside(0, 5)) {
                for (int t = 0; t < 6; t++) {
                    int other = t;
                    refused("copy", BAD, x -> x.copy(s, 0, other, 0, n));
                    refused("copy", BAD, x -> x.copy(other, 0, s, 0, n));
                }
            }
            says(41, "-11: either, ahead of -13");
            for (int t = 0; t < 6; t++) {
                int other = t;
                refused("copy", EMPTY, x -> x.copy(5, 0, other, 0, n));
                refused("copy", EMPTY, x -> x.copy(other, 0, 5, 0, n));
            }
            says(41, "-13: either is an ELEMENT, they are of two SORTS, ahead of -12");
            for (int t = 0; t < 5; t++) {
                int other = t;
                for (int s = 0; s < 3; s++) {
                    int shelf = s;
                    refused("copy", OTHER_SORT, x -> x.copy(shelf, 0, other, 0, n));
                    refused("copy", OTHER_SORT, x -> x.copy(other, 0, shelf, 0, n));
                }
            }
            refused("copy", OTHER_SORT, x -> x.copy(3, 0, 4, 0, n));
            refused("copy", OTHER_SORT, x -> x.copy(4, 0, 3, 0, n));
            refused("copy", OTHER_SORT, x -> x.copy(4, -1, 3, 99, n));
        }
    }

    /** A row of 5 longs on shelf 0, one of 8 on shelf 1. */
    private static CurveRingsClosed twoRows() {
        CurveRingsClosed x = bare();
        x.row(0, 1, 5);
        x.row(1, 1, 8);
        for (int i = 0; i < 8; i++) {
            x.put(0, i, 10 + i);
            x.put(1, i, (1L << 50) + i);
        }
        return x;
    }

    private static void copyPlaces() {
        says(41, "-12: no such place of a ROW (also with n below 0)");
        int[] places = {LEAST, -1, 0, 1, 3, 4, 5, 6, 7, 8, 9, MOST};
        int[] sizes = {LEAST, -1, 0, 1, 2, 5, 6, 8, 9, MOST};
        for (int i : places) {
            for (int j : places) {
                for (int n : sizes) {
                    boolean fits = n >= 0 && i >= 0 && j >= 0 && (long) i + n <= 5 && (long) j + n <= 8;
                    String call = "copy(0, " + i + ", 1, " + j + ", " + n + ")";
                    if (fits) {
                        copied(call, i, j, n);
                    } else {
                        CurveRingsClosed x = twoRows();
                        due(call, x.copy(0, i, 1, j, n), NO_PLACE);
                        for (int k = 0; k < 8; k++) {
                            due(call + " changes nothing", x.get(1, k), (1L << 50) + k);
                        }
                    }
                }
            }
        }
        refused("copy(0, 5, 1, 0, 1)", NO_PLACE, EdgesOfRowsTest::twoRows, x -> x.copy(0, 5, 1, 0, 1));
        refused("copy(0, 0, 1, 7, 2)", NO_PLACE, EdgesOfRowsTest::twoRows, x -> x.copy(0, 0, 1, 7, 2));
    }

    private static void copied(String call, int i, int j, int n) {
        says(41, "n numbers of a ROW from place i on come to another one from place j on: n");
        CurveRingsClosed x = twoRows();
        due(call, x.copy(0, i, 1, j, n), n);
        for (int k = 0; k < 8; k++) {
            boolean came = k >= j && k < j + n;
            due(call + ", number " + k, x.get(1, k), came ? 10 + i + k - j : (1L << 50) + k);
            if (k < 5) {
                due(call + " leaves the first", x.get(0, k), 10 + k);
            }
        }
        says(41, "-12: no such place of a ROW (also with n below 0)");
    }

    private static void copyOverlaps() {
        says(41, "to the same, as they all were");
        for (int i = 0; i <= 8; i++) {
            for (int j = 0; j <= 8; j++) {
                for (int n = 0; n <= 8 - Math.max(i, j); n++) {
                    CurveRingsClosed x = twoRows();
                    due("copy in itself", x.copy(1, i, 1, j, n), n);
                    for (int k = 0; k < 8; k++) {
                        due("number " + k, x.get(1, k) - (1L << 50), k >= j && k < j + n ? i + k - j : k);
                    }
                }
            }
        }
        says(41, "ROWS of ints too, of none and of 40 numbers");
        CurveRingsClosed x = new CurveRingsClosed();
        x.row(0, 0, 40);
        x.row(1, 0, 40);
        x.row(2, 0, 0);
        for (int i = 0; i < 40; i++) {
            x.put(0, i, LEAST + i);
        }
        due("all 40", x.copy(0, 0, 1, 0, 40), 40);
        due("the first", x.get(1, 0), LEAST);
        due("the last", x.get(1, 39), LEAST + 39);
        due("41", x.copy(0, 0, 1, 0, 41), NO_PLACE);
        due("none of none", x.copy(2, 0, 2, 0, 0), 0);
        due("one of none", x.copy(2, 0, 1, 0, 1), NO_PLACE);
        due("one to none", x.copy(1, 0, 2, 0, 1), NO_PLACE);
    }

    private static void loadsRefused() {
        says(42, "BAD: SHELVES, ahead of -11 and -13");
        for (int s : beside(0, 5)) {
            for (int t = 0; t < 6; t++) {
                int other = t;
                refused("loads", BAD, x -> x.loads(s, other));
                refused("loads", BAD, x -> x.loads(other, s));
            }
        }
        for (int t = 0; t < 6; t++) {
            int to = t;
            says(42, "-11");
            refused("loads of nothing", EMPTY, x -> x.loads(5, to));
            says(42, "-13: an ELEMENT");
            for (int s = 0; s < 3; s++) {
                int shelf = s;
                refused("loads of an ELEMENT", OTHER_SORT, x -> x.loads(shelf, to));
            }
        }
    }

    private static CurveRingsClosed counting(int n, int sort, int size) {
        CurveRingsClosed x = fresh(7, "y^" + n + "-x*y-x");
        x.row(0, sort, size);
        for (int i = 0; i < size; i++) {
            x.put(0, i, 1 + i % 6);
        }
        return x;
    }

    private static void loadSizes() {
        says(42, "number 8 j + i of a ROW (i 0 .. 7, j 0 .. n - 1; 0, where the ROW has none): how many of these it has");
        for (int n = 2; n <= 4; n++) {
            for (int size : new int[] {0, 1, 7, 8, 9, 15, 16, 17, 23, 24, 25, 31, 32, 33, 39, 40}) {
                for (int sort = 0; sort < 2; sort++) {
                    CurveRingsClosed x = counting(n, sort, size);
                    lay(x, 1, "5*x^4*y+y+3*x^6");
                    due("loads of " + size + ", n " + n, x.loads(0, 1), Math.min(size, 8 * n));
                    for (int e = 0; e < 8 * n; e++) {
                        due("x^" + e % 8 + " y^" + e / 8, x.at(1, e / 8, e % 8), e < size ? 1 + e % 6 : 0);
                    }
                    for (int j = 0; j < n; j++) {
                        due("x^8", x.at(1, j, 8), 0);
                    }
                    due("it is a POLYNOMIAL", x.as(1, 1), OTHER_SORT);
                    due("the ROW stays", x.count(5), 1);
                }
            }
        }
        says(42, "comes to a SHELF: whatever that holds, the ROW's own too");
        for (int to = 0; to < 6; to++) {
            CurveRingsClosed x = standard();
            due("loads(3, " + to + ")", x.loads(3, to), 3);
            due("count(4)", x.count(4), 7 | 1 << to);
            due("count(5)", x.count(5), 24 & ~(1 << to));
            due("4", x.at(to, 0, 0), 4);
            due("-1", x.at(to, 0, 1), 4);
            due("-6", x.at(to, 0, 2), 4);
            due("no y", x.at(to, 1, 0) + x.at(to, 1, 2) + x.at(to, 2, 0), 0);
            due("the tape stays", x.count(3), 3);
        }
    }

    private static void loadValues() {
        says(42, "taken by p (0 .. p - 1)");
        long[] values = {0, 1, -1, 6, 7, 8, -7, -8, MOST, LEAST, 1L << 31, 1L << 32, Long.MAX_VALUE, Long.MIN_VALUE,
            Long.MAX_VALUE - 1, Long.MIN_VALUE + 1};
        for (int p : new int[] {2, 3, 5, 7}) {
            CurveRingsClosed x = fresh(p, "y^2+y+x");
            x.row(0, 1, 16);
            for (int i = 0; i < 16; i++) {
                x.put(0, i, values[i]);
            }
            x.loads(0, 1);
            for (int i = 0; i < 16; i++) {
                java.math.BigInteger rest = java.math.BigInteger.valueOf(values[i]).mod(java.math.BigInteger.valueOf(p));
                due(values[i] + " by " + p, x.at(1, i / 8, i % 8), rest.intValue());
            }
            x.row(2, 0, 2);
            x.put(2, 0, LEAST);
            x.put(2, 1, -p - 1);
            x.loads(2, 1);
            due("the least int by " + p, x.at(1, 0, 0), ((long) LEAST % p + p) % p);
            due("-p - 1", x.at(1, 0, 1), p - 1);
        }
        says(42, "where a number is 0 by p there is none");
        CurveRingsClosed x = fresh(3, "y^2+x*y+x");
        x.row(0, 0, 16);
        for (int i = 0; i < 16; i++) {
            x.put(0, i, 3 * i);
        }
        due("loads", x.loads(0, 1), 16);
        due("it is 0", x.over(1, 0, 20), 0);
        lay(x, 2, "0");
        x.note(2);
        due("the same as 0", x.find(1), 0);
    }

    private static void spillsRefused() {
        says(43, "BAD: SHELVES, ahead of -11 and -13");
        for (int s : beside(0, 5)) {
            for (int t = 0; t < 6; t++) {
                int other = t;
                refused("spills", BAD, x -> x.spills(s, other));
                refused("spills", BAD, x -> x.spills(other, s));
            }
        }
        says(43, "-11: either, ahead of -13");
        for (int t = 0; t < 6; t++) {
            int other = t;
            refused("spills of nothing", EMPTY, x -> x.spills(5, other));
            refused("spills to nothing", EMPTY, x -> x.spills(other, 5));
        }
        says(43, "-13: the first is a ROW or a FRACTION, the other no ROW");
        for (int t = 0; t < 5; t++) {
            int other = t;
            for (int s = 1; s < 5; s++) {
                int shelf = s;
                refused("spills of a ROW or a FRACTION", OTHER_SORT, x -> x.spills(shelf, other));
            }
            if (t < 3) {
                refused("spills to no ROW", OTHER_SORT, x -> x.spills(0, other));
            }
        }
    }

    private static void spillSizes() {
        says(43, "Numbers in front of x^i y^j (i 0 .. 7, j 0 .. n - 1) come to places 8 j + i, where the ROW has these: how many");
        for (int n = 2; n <= 4; n++) {
            for (int size : new int[] {0, 1, 7, 8, 9, 15, 16, 17, 23, 24, 25, 31, 32, 33, 39, 40}) {
                for (int sort = 0; sort < 2; sort++) {
                    CurveRingsClosed x = counting(n, 0, 40);
                    x.loads(0, 1);
                    x.row(2, sort, size);
                    for (int i = 0; i < size; i++) {
                        x.put(2, i, -100 - i);
                    }
                    due("spills to " + size + ", n " + n, x.spills(1, 2), Math.min(size, 8 * n));
                    for (int e = 0; e < size; e++) {
                        due("number " + e, x.get(2, e), e < 8 * n ? 1 + e % 6 : -100 - e);
                    }
                    due("no more of them", answer(y -> y.get(2, size), x), THROWS_STATE);
                    due("the ELEMENT stays", x.at(1, 1, 0), 3);
                }
            }
        }
        says(43, "x^8 and higher come to no place");
        CurveRingsClosed x = standard();
        x.wipe();
        x.row(5, 1, 40);
        lay(x, 0, "x^4+2*x^3+y");
        x.times(0, 0, 0);
        x.row(3, 0, 24);
        due("spills", x.spills(0, 3), 24);
        int[] want = new int[24];
        want[6] = 4;
        want[7] = 4;
        want[11] = 4;
        want[12] = 2;
        want[16] = 1;
        for (int e = 0; e < 24; e++) {
            due("number " + e, x.get(3, e), want[e]);
        }
        due("x^8", x.at(0, 0, 8), 1);
        due("count(4) as before", x.count(4), 7);
        says(43, "of a POLYNOMIAL that was a FRACTION");
        lay(x, 1, "x", 0, 1);
        due("spills", x.spills(1, 4), 4);
        due("1", x.get(4, 0), 1);
    }

    private static void clears() {
        for (int s : beside(0, 5)) {
            says(44, "BAD");
            refused("clear", BAD, x -> x.clear(s));
            refusedBare("clear", BAD, x -> x.clear(s));
        }
        says(44, "A SHELF holds nothing: 1, if it held something, else 0");
        for (int s = 0; s < 6; s++) {
            CurveRingsClosed x = standard();
            due("clear(" + s + ")", x.clear(s), s < 5 ? 1 : 0);
            due("again", x.clear(s), 0);
            due("count(4)", x.count(4), 7 & ~(1 << s));
            due("count(5)", x.count(5), 24 & ~(1 << s));
            due("the book stays", x.count(6), 2);
            due("at", x.at(s, 0, 0), EMPTY);
            due("put", x.put(s, 0, 0), EMPTY);
            int shelf = s;
            due("get", answer(y -> y.get(shelf, 0), x), THROWS_STATE);
            due("weigh", answer(y -> y.weigh(shelf, 0), x), THROWS_STATE);
        }
        refused("clear(5)", 0, x -> x.clear(5));
        says(44, "a ROW of no numbers is something");
        CurveRingsClosed x = new CurveRingsClosed();
        x.row(0, 0, 0);
        due("clear", x.clear(0), 1);
    }

    private static void images() {
        says(45, "THE IMAGE is taken: p; nothing else changes");
        CurveRingsClosed x = standard();
        due("image()", x.image(), 5);
        due("count(4)", x.count(4), 7);
        due("count(5)", x.count(5), 24);
        due("count(6)", x.count(6), 2);
        due("count(3)", x.count(3), 3);
        due("the curve", x.front(4, 0), 4);
        says(45, "THE IMAGE keeps THE FIELD and THE CURVE, the one taken last");
        x.wipe();
        x.field(3);
        tell(x, "y^4-x");
        due("back()", x.back(), 5);
        due("n", x.count(1), 3);
        due("the curve", x.front(4, 0), 4);
        x.field(2);
        due("image()", x.image(), 2);
        x.field(7);
        due("back()", x.back(), 2);
        due("no curve", x.count(1), 0);
        for (int p : new int[] {2, 3, 5, 7}) {
            x = fresh(p, "y^2+y+x");
            due("image()", x.image(), p);
            x = fresh(p, null);
            due("image()", x.image(), p);
        }
        says(45, "what is done to THE CURVE is not done to THE IMAGE");
        x = fresh(7, "y^2-(x-3)^3");
        x.image();
        tell(x, "y^3-x");
        tell(x, "y^4-x^2+1");
        x.draw(3, 2);
        due("back()", x.back(), 7);
        due("n", x.count(1), 2);
        due("degree", x.count(2), 3);
        due("order(3)", x.order(3), 3);
        due("order(0)", x.order(0), 0);
        // 27 - 27 x + 9 x^2 - x^3
        int[] f = {6, 1, 2, 6};
        // 4 (- 27 + 27 x - 9 x^2 + x^3)
        int[] disc = {4, 3, 6, 4};
        for (int i = 0; i <= 6; i++) {
            due("front(" + i + ", 0)", x.front(i, 0), i < 4 ? f[i] : 0);
            due("disc(" + i + ")", x.disc(i), i < 4 ? disc[i] : 0);
            due("front(" + i + ", 1)", x.front(i, 1), 0);
        }
        due("last(3)", x.last(3), 1);
        due("open()", x.open(), 8);
        due("genus(1)", x.genus(1), 1);
        due("multiplicity(3, 0)", x.multiplicity(3, 0), 2);
    }

    private static void backs() {
        says(46, "NOT: there is none");
        refused("back()", NOT, () -> {
            CurveRingsClosed x = fresh(5, "y^2-x");
            lay(x, 0, "y");
            x.note(0);
            x.row(1, 0, 2);
            feed(x, "xy");
            return x;
        }, x -> x.back());
        says(46, "THE FIELD and THE CURVE become as THE IMAGE keeps them: SHELVES with ELEMENTS, THE BOOK are emptied");
        CurveRingsClosed x = standard();
        due("back()", x.back(), 7);
        CurveRingsClosed twin = bare();
        due("back()", twin.back(), 7);
        same("back()", holds(x), holds(twin));
        x = standard();
        x.back();
        due("count(4)", x.count(4), 0);
        due("count(5)", x.count(5), 24);
        due("count(6)", x.count(6), 0);
        due("count(3)", x.count(3), 3);
        says(46, "the same anew");
        x = standard();
        x.image();
        x.whole(1);
        due("back()", x.back(), 5);
        due("count(4)", x.count(4), 0);
        due("count(6)", x.count(6), 0);
        due("n", x.count(1), 3);
        due("last(0)", x.last(0), 2);
        says(46, "THE IMAGE stays");
        due("back()", x.back(), 5);
        x.field(2);
        due("back()", x.back(), 5);
        due("n", x.count(1), 3);
        says(46, "or that there is none");
        x = fresh(7, null);
        x.image();
        tell(x, "y^2-x");
        lay(x, 0, "y");
        due("back()", x.back(), 7);
        due("no curve", x.count(1), 0);
        due("no curve", x.front(0, 0), STATE);
        due("nothing on the shelf", x.count(4), 0);
        due("a new curve by 7", tell(x, "y^2-6*x"), 2);
        due("6", x.front(1, 0), 1);
    }

    private static void counts() {
        says(47, "what 0 .. 6; BAD");
        for (int what : beside(0, 6)) {
            refused("count(" + what + ")", BAD, x -> x.count(what));
            refusedBare("count(" + what + ")", BAD, x -> x.count(what));
        }
        says(47, "0 p, 1 n, 2 DEGREE of f, 3 bytes of THE TAPE, 4 SHELVES with ELEMENTS, 5 with ROWS, 6 THE BOOK");
        CurveRingsClosed x = standard();
        int[] want = {5, 3, 4, 3, 7, 24, 2};
        int[] bare = {5, 0, 0, 3, 0, 24, 0};
        for (int what = 0; what <= 6; what++) {
            due("count(" + what + ")", x.count(what), want[what]);
            due("count(" + what + ") without a curve", bare().count(what), bare[what]);
        }
        says(47, "all SHELVES");
        for (int s = 0; s < 6; s++) {
            x.basis(s, 0, 0, 0);
        }
        due("count(4)", x.count(4), 63);
        due("count(5)", x.count(5), 0);
        for (int s = 0; s < 6; s++) {
            x.row(s, 0, 0);
        }
        due("count(4)", x.count(4), 0);
        due("count(5)", x.count(5), 63);
        says(47, "DEGREE of f: the greatest i + j with a number that isn't 0");
        String[] curves = {"y^2-x", "y^2-x^2-1", "y^2-x^3", "y^2-x^2*y-1", "y^3-x^4", "y^2-x^3*y-1", "y^2-x^5", "y^4-x*y^3-x^6", "y^2-x^5*y-1"};
        int[] degrees = {2, 2, 3, 3, 4, 4, 5, 6, 6};
        for (int k = 0; k < curves.length; k++) {
            due("degree of " + curves[k], fresh(7, curves[k]).count(2), degrees[k]);
        }
        says(47, "DEGREE is that of THE CURVE, not of a refused one, nor of an older one");
        x = fresh(7, "y^2-x^6-1");
        tell(x, "y^2");
        due("count(2)", x.count(2), 6);
        tell(x, "y-x^4");
        due("count(2)", x.count(2), 6);
        due("count(1)", x.count(1), 2);
        tell(x, "y^2-x");
        due("count(2)", x.count(2), 2);
    }
}
