/** Each sentence of the document that names an edge: elements, their sums and products, equations, weights, the book. */
public final class EdgesOfElementsTest extends Checks {
    /** A call about one shelf, the others of its numbers being fine. */
    private interface OnShelf {
        long on(CurveRingsClosed x, int shelf);
    }

    public static void main(String[] args) {
        shelves();
        elements();
        reduced();
        basisOnShelf();
        overRefused();
        overSteps();
        pairsRefused();
        sums();
        products();
        numbers();
        kinds();
        wholeRefused();
        wholeOrNot();
        equationValues();
        equationOfAll();
        equationAnew();
        afterRings();
        liesAt();
        wholeIsInLast();
        weighRefused();
        weights();
        wideWeights();
        notes();
        sameOrNot();
        copies();
        end("EdgesOfElementsTest");
    }

    /** SHELVES 0 .. 5, what holds nothing, what holds a ROW. */
    private static void shelves() {
        OnShelf[] calls = {(x, s) -> x.over(s, 0, 1), (x, s) -> x.at(s, 0, 0), (x, s) -> x.as(s, 0), (x, s) -> x.as(s, 1),
            (x, s) -> x.place(s), (x, s) -> x.whole(s), (x, s) -> x.equation(s, 1, 0), (x, s) -> x.lies(s),
            (x, s) -> x.note(s), (x, s) -> x.find(s), (x, s) -> x.plus(s, 0, 0), (x, s) -> x.plus(0, s, 0),
            (x, s) -> x.times(s, 0, 0), (x, s) -> x.times(0, s, 0)};
        int[] promises = {25, 28, 29, 29, 30, 31, 32, 33, 35, 36, 26, 26, 27, 27};
        for (int k = 0; k < calls.length; k++) {
            OnShelf call = calls[k];
            says(promises[k], "BAD: a SHELF that is none such");
            for (int s : beside(0, 5)) {
                refused("shelf " + s, BAD, x -> call.on(x, s));
            }
            says(promises[k], "-11: a SHELF holds nothing");
            refused("shelf 5", EMPTY, x -> call.on(x, 5));
            says(promises[k], "-13: a ROW");
            refused("shelf 3", OTHER_SORT, x -> call.on(x, 3));
            refused("shelf 4", OTHER_SORT, x -> call.on(x, 4));
            says(promises[k], "shelf 0 and 2 are fine");
            due("shelf 0 or 2", call.on(standard(), 0) > -20 ? 1 : 0, 1);
        }
        for (int s : beside(0, 5)) {
            says(23, "BAD: THE TAPE stays");
            refused("element(" + s + ")", BAD, x -> x.element(s));
            says(24, "BAD");
            refused("basis(" + s + ")", BAD, x -> x.basis(s, 0, 0, 0));
            says(26, "BAD");
            refused("plus to " + s, BAD, x -> x.plus(0, 0, s));
            says(27, "BAD");
            refused("times to " + s, BAD, x -> x.times(0, 0, s));
            says(37, "BAD");
            refused("copyOut to " + s, BAD, x -> x.copyOut(0, s));
        }
    }

    private static void elements() {
        says(23, "STATE, BAD: THE TAPE stays; BAD comes ahead of the text");
        refused("element(6) of a faulty text", BAD, () -> {
            CurveRingsClosed x = standard();
            feed(x, "+");
            return x;
        }, x -> x.element(6));
        says(23, "else -100 less the FAULT, -300 less HIGH; THE TAPE is empty then, the SHELF stays");
        for (int s = 0; s < 6; s++) {
            int shelf = s;
            leaves("element(" + s + ")", -102, x -> {
                x.feed(1, '*');
                x.wipe();
                return lay(x, shelf, "y*");
            }, x -> x.wipe());
            leaves("element(" + s + ")", -303, x -> {
                x.wipe();
                return lay(x, shelf, "x^6*y");
            }, x -> x.wipe());
            says(23, "What THE TAPE tells comes to a SHELF as an ELEMENT: 1");
            CurveRingsClosed x = standard();
            due("element(" + s + ")", x.element(s), 1);
            due("count(4)", x.count(4), 7 | 1 << s);
            due("count(5)", x.count(5), 24 & ~(1 << s));
            due("count(3)", x.count(3), 0);
            due("y", x.at(s, 1, 0), 1);
            due("2", x.at(s, 0, 0), 2);
            due("no x^2 y is left", x.at(s, 1, 2), 0);
            due("m", x.as(s, 0), 0);
            due("no text is no ELEMENT", x.element(s), -100);
            due("it stays", x.at(s, 0, 0), 2);
        }
        says(23, "0 is an ELEMENT");
        CurveRingsClosed x = fresh(3, "y^2-x");
        due("0", lay(x, 0, "3*x"), 1);
        due("count(4)", x.count(4), 1);
        due("m", x.as(0, 0), 0);
    }

    /** Numbers in front of x^i in a_j, told as j, i, number; all others are 0. */
    private static void holdsNumbers(CurveRingsClosed x, int shelf, int... told) {
        for (int j = 0; j < x.count(1); j++) {
            for (int i = 0; i <= 30; i++) {
                int want = 0;
                for (int k = 0; k < told.length; k += 3) {
                    want = told[k] == j && told[k + 1] == i ? told[k + 2] : want;
                }
                due("at(" + shelf + ", " + j + ", " + i + ")", x.at(shelf, j, i), want);
            }
        }
    }

    private static void reduced() {
        says(23, "y^n and higher by f");
        // y^2 = y + x
        CurveRingsClosed x = fresh(5, "y^2-y-x");
        lay(x, 0, "y^2");
        holdsNumbers(x, 0, 1, 0, 1, 0, 1, 1);
        lay(x, 0, "y^6");
        holdsNumbers(x, 0, 1, 0, 1, 1, 1, 4, 1, 2, 3, 0, 1, 1, 0, 2, 3, 0, 3, 1);
        // y^2 = x^5 y + x^6
        x = fresh(5, "y^2-x^5*y-x^6");
        lay(x, 0, "y^6");
        holdsNumbers(x, 0, 1, 25, 1, 1, 21, 4, 1, 17, 3, 0, 26, 1, 0, 22, 3, 0, 18, 1);
        // y^4 = - x^3 y^3
        x = fresh(3, "y^4+x^3*y^3+1");
        lay(x, 0, "y^6");
        holdsNumbers(x, 0, 3, 9, 2, 2, 0, 2, 1, 3, 1, 0, 6, 2);
        lay(x, 0, "x^2*y^4");
        holdsNumbers(x, 0, 3, 5, 2, 0, 2, 2);
        lay(x, 0, "y^3");
        holdsNumbers(x, 0, 3, 0, 1);
    }

    private static void basisOnShelf() {
        says(24, "b_j of RING k comes to a SHELF: its m");
        for (int p : new int[] {3, 5, 7}) {
            for (int c = 0; c < p; c++) {
                String t = "(x-" + c + ")";
                CurveRingsClosed x = fresh(p, "(y-1-" + t + ")^2-" + t + "^5");
                for (int s = 0; s < 6; s++) {
                    x.row(s, 0, 4);
                    due("basis", x.basis(s, c, 2, 1), 2);
                    due("place", x.place(s), c);
                    // y - 1 - (x - c)
                    holdsNumbers(x, s, 1, 0, 1, 0, 0, (c + p - 1) % p, 0, 1, p - 1);
                    due("lies", x.lies(s), 2);
                }
                due("basis", x.basis(0, c, 1, 1), 1);
                holdsNumbers(x, 0, 1, 0, 1, 0, 0, p - 1);
                due("lies", x.lies(0), 1);
                due("basis", x.basis(0, c, 0, 1), 0);
                due("y is a POLYNOMIAL", x.place(0), OTHER_SORT);
                holdsNumbers(x, 0, 1, 0, 1);
                due("basis", x.basis(0, c, 2, 0), 0);
                holdsNumbers(x, 0, 0, 0, 1);
            }
        }
    }

    private static void overRefused() {
        says(25, "c a PLACE, m 0 .. 20; BAD, ahead of -11 and -13");
        for (int s = 0; s < 6; s++) {
            int shelf = s;
            for (int c : beside(0, 4)) {
                refused("over", BAD, x -> x.over(shelf, c, 0));
            }
            for (int m : beside(0, 20)) {
                refused("over", BAD, x -> x.over(shelf, 0, m));
            }
        }
        says(25, "-13: a FRACTION of another PLACE than c, ahead of FULL");
        for (int m : new int[] {0, 1, 20}) {
            refused("over", OTHER_SORT, x -> x.over(1, 1, m));
            refused("over", OTHER_SORT, x -> x.over(1, 4, m));
            refused("over", OTHER_SORT, x -> x.over(2, 0, m));
        }
        says(25, "FULL: no ROOM (m is 20 at most)");
        refused("m 21", FULL, x -> x.over(1, 0, 20));
        refused("m 21", FULL, x -> x.over(2, 1, 18));
        refused("m 23", FULL, x -> x.over(2, 1, 20));
        due("m 20", standard().over(1, 0, 19), 20);
        due("m 20", standard().over(2, 1, 17), 20);
    }

    private static void overSteps() {
        says(25, "The ELEMENT becomes that by (x - c)^m: its m then, in lowest terms");
        CurveRingsClosed x = standard();
        x.wipe();
        due("a POLYNOMIAL by 1", x.over(0, 4, 0), 0);
        due("a FRACTION by 1", x.over(1, 0, 0), 1);
        holdsNumbers(x, 0, 1, 2, 1, 0, 0, 3);
        due("m 20", x.over(0, 4, 20), 20);
        due("its place", x.place(0), 4);
        holdsNumbers(x, 0, 1, 2, 1, 0, 0, 3);
        due("m 20 by 1", x.over(0, 4, 0), 20);
        due("FULL", x.over(0, 4, 1), FULL);
        for (int m = 0; m <= 20; m++) {
            lay(x, 0, "x^4*y^2-2*x^3");
            due("x^3 (x y^2 - 2) by x^" + m, x.over(0, 0, m), Math.max(0, m - 3));
            due("x y^2", x.at(0, 2, Math.max(1, 4 - m)), 1);
            due("-2", x.at(0, 0, Math.max(0, 3 - m)), 3);
            due("KIND", x.as(0, 1), m > 3 ? m - 3 : OTHER_SORT);
        }
        lay(x, 0, "(x-4)^6");
        due("(x - 4)^6 by x - 4", x.over(0, 4, 1), 0);
        due("then by (x - 4)^5", x.over(0, 4, 5), 0);
        holdsNumbers(x, 0, 0, 0, 1);
        due("then by x - 3", x.over(0, 3, 1), 1);
        due("its place", x.place(0), 3);
        says(25, "m is 0, or not all a_j are x - c times a POLYNOMIAL");
        lay(x, 0, "x-x");
        due("0 by x^20", x.over(0, 0, 20), 0);
        due("0 is a POLYNOMIAL", x.place(0), OTHER_SORT);
        due("0 by another", x.over(0, 1, 20), 0);
        lay(x, 0, "x*y+x*y^2+1");
        due("one a_j that isn't", x.over(0, 0, 1), 1);
        lay(x, 0, "x*y+x*y^2+x");
        due("all of them", x.over(0, 0, 1), 0);
        says(25, "a POLYNOMIAL has no PLACE");
        lay(x, 0, "x-2", 2, 1);
        due("1 by x - 1", x.over(0, 1, 1), 1);
    }

    private static CurveRingsClosed filled(String first, int m, String second, int k) {
        CurveRingsClosed x = standard();
        x.wipe();
        lay(x, 0, first, 0, m);
        lay(x, 1, second, 0, k);
        return x;
    }

    private static void pairsRefused() {
        for (int op = 0; op < 2; op++) {
            boolean sum = op == 0;
            says(26 + op, "BAD comes ahead of -11, -11: either comes ahead of -13: either");
            refused("nothing, none such", BAD, x -> sum ? x.plus(5, 5, 6) : x.times(5, 5, 6));
            refused("a row, none such", BAD, x -> sum ? x.plus(3, 6, 0) : x.times(3, 6, 0));
            refused("nothing, none such", BAD, x -> sum ? x.plus(5, -1, 0) : x.times(5, -1, 0));
            refused("nothing, a row", EMPTY, x -> sum ? x.plus(5, 3, 0) : x.times(5, 3, 0));
            refused("a row, nothing", EMPTY, x -> sum ? x.plus(4, 5, 0) : x.times(4, 5, 0));
            refused("nothing twice", EMPTY, x -> sum ? x.plus(5, 5, 5) : x.times(5, 5, 5));
            says(26 + op, "-13: either is a ROW, FRACTIONS of two PLACES");
            refused("two rows", OTHER_SORT, x -> sum ? x.plus(3, 4, 0) : x.times(3, 4, 0));
            refused("two places", OTHER_SORT, x -> sum ? x.plus(1, 2, 5) : x.times(1, 2, 5));
            refused("two places", OTHER_SORT, x -> sum ? x.plus(2, 1, 1) : x.times(2, 1, 1));
            due("a POLYNOMIAL and a FRACTION", sum ? standard().plus(0, 2, 5) : standard().times(0, 2, 5), 3);
            due("a FRACTION and a POLYNOMIAL", sum ? standard().plus(2, 0, 5) : standard().times(2, 0, 5), 3);
            due("FRACTIONS of one", sum ? standard().plus(2, 2, 5) : standard().times(2, 2, 5), sum ? 3 : 6);
            says(26 + op, "-13 comes ahead of FULL");
            refused("m 20 of two places", OTHER_SORT, () -> {
                CurveRingsClosed x = standard();
                x.over(1, 0, 19);
                x.over(2, 1, 17);
                return x;
            }, x -> sum ? x.plus(1, 2, 0) : x.times(1, 2, 0));
            says(26 + op, "comes to a SHELF: whatever that holds");
            for (int to = 0; to < 6; to++) {
                CurveRingsClosed x = standard();
                due("to " + to, sum ? x.plus(0, 0, to) : x.times(0, 0, to), 0);
                due("count(4)", x.count(4), 7 | 1 << to);
                due("count(5)", x.count(5), 24 & ~(1 << to));
                due("3 + 3, 3 * 3", x.at(to, 0, 0), sum ? 1 : 4);
                due("the book stays", x.count(6), 2);
            }
        }
    }

    private static void sums() {
        says(26, "FULL: each a_j has DEGREE 30 at most, m is 20 at most; lowest terms count");
        for (int i = 9; i <= 12; i++) {
            String more = "x^" + (i - 6);
            CurveRingsClosed x = wide(more);
            if (i <= 10) {
                due("x^" + i + " + 1 by x^20", x.plus(0, 1, 2), 20);
                due("x^" + (20 + i), x.at(2, 0, 20 + i), 1);
                due("1", x.at(2, 0, 0), 1);
            } else {
                refused("x^" + i + " + 1 by x^20", FULL, () -> wide(more), y -> y.plus(0, 1, 2));
                refused("1 by x^20 + x^" + i, FULL, () -> wide(more), y -> y.plus(1, 0, 0));
            }
        }
        says(26, "The sum of two: its m");
        CurveRingsClosed x = filled("1", 3, "x^2-1", 3);
        due("1 by x^3 and x^2 - 1 by x^3", x.plus(0, 1, 5), 1);
        holdsNumbers(x, 5, 0, 0, 1);
        x = filled("y+1", 4, "4*y+4", 4);
        due("what falls away", x.plus(0, 1, 0), 0);
        holdsNumbers(x, 0);
        due("0 is a POLYNOMIAL", x.as(0, 1), OTHER_SORT);
        x = filled("y+1", 2, "2*y*x+4", 1);
        due("m 2 and m 1", x.plus(0, 1, 1), 2);
        holdsNumbers(x, 1, 1, 0, 1, 1, 2, 2, 0, 0, 1, 0, 1, 4);
        due("the first stays", x.as(0, 1), 2);
        x = filled("y+1", 1, "2*y+4*x", 2);
        due("m 1 and m 2", x.plus(0, 1, 0), 2);
        holdsNumbers(x, 0, 1, 0, 2, 1, 1, 1);
        x = standard();
        due("itself five times is 0", x.plus(2, 2, 5) + x.plus(5, 5, 5) + x.plus(5, 2, 5), 6);
        holdsNumbers(x, 5);
        due("a POLYNOMIAL and a FRACTION of 1", x.plus(0, 2, 5), 3);
        // (x^2 y + 3) (x - 1)^3 + y
        holdsNumbers(x, 5, 1, 5, 1, 1, 4, 2, 1, 3, 3, 1, 2, 4, 1, 0, 1, 0, 3, 3, 0, 2, 1, 0, 1, 4, 0, 0, 2);
        due("its place", x.place(5), 1);
    }

    /** x^6 times what text tells on shelf 0, 1 by x^20 on shelf 1. */
    private static CurveRingsClosed wide(String text) {
        CurveRingsClosed x = standard();
        x.wipe();
        lay(x, 0, "x^6");
        lay(x, 1, text);
        x.times(0, 1, 0);
        lay(x, 1, "1", 0, 20);
        return x;
    }

    /** x^i y^j on a shelf. */
    private static void power(CurveRingsClosed x, int shelf, int i, int j) {
        lay(x, 5, "x");
        lay(x, shelf, "y^" + j);
        for (int k = 0; k < i; k++) {
            x.times(shelf, 5, shelf);
        }
        x.clear(5);
    }

    /** x^i y^j by x^m and x^k y^l by x^q, on shelves 0 and 1. */
    private static CurveRingsClosed powers(int... told) {
        CurveRingsClosed x = standard();
        x.wipe();
        power(x, 0, told[0], told[1]);
        x.over(0, 0, told[2]);
        power(x, 1, told[3], told[4]);
        x.over(1, 0, told[5]);
        return x;
    }

    private static void product(int want, int... told) {
        String call = "x^" + told[0] + " y^" + told[1] + " by x^" + told[2] + " and x^" + told[3] + " y^" + told[4] + " by x^"
                + told[5];
        if (want == FULL) {
            refused(call, FULL, () -> powers(told), x -> x.times(0, 1, 2));
            refused(call, FULL, () -> powers(told), x -> x.times(1, 0, 1));
        } else {
            due(call, powers(told).times(0, 1, 2), want);
            due(call, powers(told).times(1, 0, 0), want);
        }
    }

    /** Over y^3 = x^4. */
    private static void products() {
        says(27, "FULL: each a_j has DEGREE 30 at most");
        product(0, 15, 0, 0, 15, 0, 0);
        product(FULL, 15, 0, 0, 16, 0, 0);
        product(0, 30, 1, 0, 0, 1, 0);
        product(FULL, 30, 1, 0, 1, 1, 0);
        product(0, 26, 2, 0, 0, 1, 0);
        product(FULL, 27, 2, 0, 0, 1, 0);
        says(27, "FULL: m is 20 at most");
        product(20, 0, 0, 10, 0, 0, 10);
        product(FULL, 0, 0, 10, 0, 0, 11);
        product(20, 0, 0, 20, 0, 1, 0);
        product(FULL, 0, 0, 20, 0, 1, 1);
        says(27, "lowest terms count");
        product(18, 0, 2, 11, 0, 1, 11);
        product(20, 0, 2, 12, 0, 1, 12);
        product(FULL, 0, 2, 13, 0, 1, 12);
        product(0, 28, 2, 0, 0, 1, 2);
        product(FULL, 29, 2, 0, 0, 1, 2);
        product(16, 0, 2, 20, 0, 1, 0);
        CurveRingsClosed x = powers(28, 2, 0, 0, 1, 2);
        x.times(0, 1, 0);
        due("x^30", x.at(0, 0, 30), 1);
        says(27, "The product of two");
        x = filled("2*y^2+x", 3, "3*y^2+1", 1);
        due("m", x.times(0, 1, 5), 4);
        // 6 x^4 y + 2 y^2 + 3 x y^2 + x
        holdsNumbers(x, 5, 1, 4, 1, 2, 0, 2, 2, 1, 3, 0, 1, 1);
        due("place", x.place(5), 0);
        x = filled("x-x", 0, "y", 20);
        due("0 times a FRACTION", x.times(0, 1, 5), 0);
        holdsNumbers(x, 5);
        x = standard();
        due("a FRACTION of 1 and a POLYNOMIAL", x.times(2, 0, 2), 3);
        holdsNumbers(x, 2, 2, 2, 1, 1, 0, 3);
        due("its place", x.place(2), 1);
    }

    private static void numbers() {
        says(28, "j 0 .. n - 1, i 0 .. 30; BAD, ahead of -11 and -13");
        for (int s = 0; s < 6; s++) {
            int shelf = s;
            for (int j : beside(0, 2)) {
                refused("at", BAD, x -> x.at(shelf, j, 0));
            }
            for (int i : beside(0, 30)) {
                refused("at", BAD, x -> x.at(shelf, 0, i));
            }
        }
        CurveRingsClosed x = powers(30, 0, 0, 30, 2, 0);
        due("x^30", x.at(0, 0, 30), 1);
        due("x^30 y^2", x.at(1, 2, 30), 1);
        due("x^29 y^2", x.at(1, 2, 29), 0);
        due("a_j of a FRACTION", standard().at(2, 1, 0), 1);
        for (int n = 2; n <= 4; n++) {
            x = fresh(3, "y^" + n + "-x*y-x");
            lay(x, 0, "y^" + (n - 1));
            due("a_(n - 1)", x.at(0, n - 1, 0), 1);
            due("a_n", x.at(0, n, 0), BAD);
        }
    }

    private static void kinds() {
        says(29, "KIND k (0, 1); BAD, ahead of -11 and -13");
        for (int s = 0; s < 6; s++) {
            int shelf = s;
            for (int k : beside(0, 1)) {
                refused("as", BAD, x -> x.as(shelf, k));
            }
        }
        says(29, "-13: a POLYNOMIAL taken for a FRACTION");
        refused("as(0, 1)", OTHER_SORT, x -> x.as(0, 1));
        says(29, "a FRACTION under POLYNOMIAL: its m");
        CurveRingsClosed x = standard();
        due("as(0, 0)", x.as(0, 0), 0);
        due("as(1, 0)", x.as(1, 0), 1);
        due("as(1, 1)", x.as(1, 1), 1);
        due("as(2, 0)", x.as(2, 0), 3);
        due("as(2, 1)", x.as(2, 1), 3);
        says(30, "-13: no FRACTION");
        refused("place(0)", OTHER_SORT, y -> y.place(0));
        says(30, "PLACE of a FRACTION");
        for (int p : new int[] {2, 3, 5, 7}) {
            x = fresh(p, "y^2+y+x");
            for (int c = 0; c < p; c++) {
                due("1 by x - c", lay(x, 0, "1", c, 1), 1);
                due("place", x.place(0), c);
            }
        }
    }

    private static void wholeRefused() {
        says(32, "j 1 .. n, i 0 .. 199; BAD, ahead of -11, -13 and NOT");
        for (int s = 0; s < 6; s++) {
            int shelf = s;
            for (int j : beside(1, 3)) {
                refused("equation", BAD, x -> x.equation(shelf, j, 0));
            }
            for (int i : beside(0, 199)) {
                refused("equation", BAD, x -> x.equation(shelf, 1, i));
            }
        }
        says(32, "NOT: it is not WHOLE");
        for (int j = 1; j <= 3; j++) {
            int g = j;
            refused("equation", NOT, x -> x.equation(2, g, 0));
            refused("equation", NOT, x -> x.equation(2, g, 199));
        }
        says(31, "1: WHOLE, else 0");
        due("a POLYNOMIAL", standard().whole(0), 1);
        due("y^2 by x", standard().whole(1), 1);
        due("y by (x - 1)^3", standard().whole(2), 0);
        leaves("whole(2)", 0, x -> x.whole(2), x -> 0);
    }

    private static void whole(int p, String curve, String text, int m, int want) {
        CurveRingsClosed x = fresh(p, curve);
        lay(x, 0, text, 0, m);
        String call = text + " by x^" + m + " over " + curve;
        due(call + ", whole", x.whole(0), want);
        due(call + ", equation", x.equation(0, 1, 199), want == 1 ? 0 : NOT);
        due(call + ", lies", x.lies(0) >= 0 ? 1 : 0, want);
    }

    private static void wholeOrNot() {
        says(31, "WHOLE: all its g_j are POLYNOMIALS in x");
        whole(3, "y^2-x", "1", 1, 0);
        whole(3, "y^2-x", "y", 1, 0);
        whole(3, "y^2-x^2-1", "y", 1, 0);
        whole(3, "y^2-x^3", "y", 1, 1);
        whole(3, "y^2-x^3", "y+1", 1, 0);
        whole(3, "y^2-x^3", "y+x^2", 1, 1);
        whole(3, "y^2-x^3", "y", 2, 0);
        whole(5, "y^2-x^6", "y", 3, 1);
        whole(5, "y^2-x^6", "y", 4, 0);
        says(31, "one g_j that is none");
        whole(5, "y^2-y-x^2", "y", 1, 0);
        whole(5, "y^3-y^2+x^3", "y", 1, 0);
        whole(5, "y^3+x*y+x^3", "y", 1, 0);
        whole(5, "y^3+x^2*y+x^2", "y", 1, 0);
        whole(5, "y^4+y^3+x^4", "y", 1, 0);
        whole(5, "y^4+x*y^2+x^4", "y", 1, 0);
        whole(5, "y^4+x^2*y+x^4", "y", 1, 0);
        whole(5, "y^4+x^2*y^2+x^3", "y", 1, 0);
        says(31, "each g_j just is one");
        whole(5, "y^3+x*y^2+x^2*y+x^3", "y", 1, 1);
        whole(7, "y^4+x*y^3+x^2*y^2+x^3*y+x^4", "y", 1, 1);
        CurveRingsClosed x = fresh(7, "y^4+x*y^3+2*x^2*y^2+3*x^3*y+4*x^4");
        lay(x, 0, "y", 0, 1);
        int[] g = {1, 2, 3, 4};
        for (int j = 1; j <= 4; j++) {
            due("g_" + j, x.equation(0, j, 0), g[j - 1]);
            due("g_" + j, x.equation(0, j, 1), 0);
        }
    }

    private static void equationValues() {
        says(32, "EQUATION: T^n + g_1 T^(n - 1) + .. + g_n, the determinant of T times 1 less THE TABLE");
        CurveRingsClosed x = fresh(5, "y^3-x^4");
        lay(x, 0, "0");
        lay(x, 1, "1");
        lay(x, 2, "y+x");
        lay(x, 3, "x^2*y^2");
        int[] one = {2, 3, 4};
        for (int j = 1; j <= 3; j++) {
            due("of 0", x.equation(0, j, 0), 0);
            due("of 1", x.equation(1, j, 0), one[j - 1]);
            due("of 1", x.equation(1, j, 1), 0);
            for (int s = 0; s < 4; s++) {
                due("i 199", x.equation(s, j, 199), 0);
            }
        }
        // (T - x)^3 - x^4
        due("- 3 x", x.equation(2, 1, 1), 2);
        due("3 x^2", x.equation(2, 2, 2), 3);
        due("- x^3", x.equation(2, 3, 3), 4);
        due("- x^4", x.equation(2, 3, 4), 4);
        due("- x^14", x.equation(3, 3, 14), 4);
        x = powers(30, 2, 0, 0, 0, 0);
        due("- x^98", x.equation(0, 3, 98), 4);
        due("no x^97", x.equation(0, 3, 97), 0);
        for (int n = 2; n <= 4; n++) {
            x = fresh(7, "y^" + n + "-x");
            lay(x, 0, "y");
            due("g_n of y", x.equation(0, n, 1), 6);
            due("g_(n + 1)", x.equation(0, n + 1, 0), BAD);
            due("g_0", x.equation(0, 0, 0), BAD);
        }
        says(32, "the highest that comes: x^30 y^3 over y^4 + x^3 y^3 + x^6");
        x = fresh(7, "y^4+x^3*y^3+x^6");
        power(x, 1, 30, 3);
        due("x^138", x.equation(1, 4, 138), 1);
        due("x^39", x.equation(1, 1, 39), 1);
    }

    /** z^n + g_1 z^(n - 1) + .. + g_n is 0: for a z that no shorter one fits, there are no other g_j. */
    private static void equationOfAll() {
        says(32, "EQUATION of z: all g_j, where all numbers of f and z count");
        String[] curves = {"y^2+x^3*y+2*y+x^5+x+1", "y^3+x^2*y^2+2*y^2+x*y+3*y+x^4+2", "y^4+x*y^3+2*y^3+x^2*y^2+3*y+x^3*y+x^5+x+4"};
        String[] texts = {"y", "y+x", "x^2*y+2*y+x+3", "y^3+x*y^2+2*y+x^2+1", "(x+1)*y^2+3*y+x", "y^3+2*y^2"};
        for (String curve : curves) {
            for (String text : texts) {
                CurveRingsClosed x = fresh(7, curve);
                int n = x.count(1);
                lay(x, 0, text);
                lay(x, 1, "1");
                for (int j = 1; j <= n; j++) {
                    lay(x, 2, "0");
                    for (int i = 24; i >= 0; i--) {
                        lay(x, 3, "x");
                        x.times(2, 3, 2);
                        lay(x, 3, String.valueOf(x.equation(0, j, i)));
                        x.plus(2, 3, 2);
                    }
                    due("times", x.times(1, 0, 1), 0);
                    due("plus", x.plus(1, 2, 1), 0);
                    due("it is 0 behind g_" + j, x.weigh(1, 1) == 0 ? 1 : 0, j == n ? 1 : 0);
                }
                due("no x^25", x.equation(0, n, 25), 0);
            }
        }
    }

    /** Each call that brings another ELEMENT to a shelf makes its EQUATION another. */
    private static void equationAnew() {
        says(32, "of the ELEMENT that the SHELF holds now");
        Call[] calls = {x -> x.element(1), x -> x.basis(1, 0, 2, 1), x -> x.over(1, 0, 1), x -> x.plus(0, 0, 1),
            x -> x.times(0, 1, 1), x -> x.copyOut(0, 1), x -> x.loads(3, 1), x -> x.row(1, 0, 1) + x.loads(1, 1),
            x -> x.clear(1) + x.copyOut(0, 1), x -> x.whole(0), x -> x.equation(2, 1, 0), x -> tell(x, "y^4"),
            x -> x.branches(0, 0) + x.table(0, 2, 10, 0, 0)};
        for (int k = 0; k < calls.length; k++) {
            CurveRingsClosed told = standard();
            told.whole(1);
            calls[k].on(told);
            CurveRingsClosed fresh = standard();
            calls[k].on(fresh);
            due("whole after call " + k, told.whole(1), fresh.whole(1));
            for (int j = 1; j <= 3; j++) {
                for (int i = 0; i < 12; i++) {
                    due("equation after call " + k, told.equation(1, j, i), fresh.equation(1, j, i));
                }
            }
        }
        says(32, "of another curve");
        CurveRingsClosed x = standard();
        x.whole(1);
        tell(x, "y^3+y+x");
        x.wipe();
        tell(x, "y^3+y+x");
        lay(x, 1, "y");
        due("g_3", x.equation(1, 3, 1), 1);
        x.image();
        x.back();
        lay(x, 1, "x");
        due("g_3", x.equation(1, 3, 3), 4);
        x.draw(3, 2);
        lay(x, 1, "x");
        due("g_2", x.equation(1, 2, 2), 1);
    }

    /** The rings over c are worked out by t = x - c; ELEMENTS are not. */
    private static void afterRings() {
        says(27, "multiplied so that f is 0, whatever was asked before");
        Call[] asked = {x -> x.last(3), x -> x.table(2, 0, 10, 0, 0), x -> x.branches(4, 0), x -> x.open(), x -> x.genus(1),
            x -> x.basis(5, 1, 0, 2), x -> x.classes(3, 0, 1), x -> x.lies(2), x -> x.whole(2), x -> x.equation(0, 1, 0),
            x -> x.conductor(1, 0), x -> x.digit(4, 0, 1, 1, 0), x -> x.order(2), x -> x.singular(3)};
        for (Call call : asked) {
            CurveRingsClosed x = standard();
            x.wipe();
            call.on(x);
            lay(x, 5, "y^3+x*y^4");
            holdsNumbers(x, 5, 0, 4, 1, 1, 5, 1);
            x = standard();
            call.on(x);
            due("y^2 y^2 by x^2", x.times(1, 1, 5), 0);
            holdsNumbers(x, 5, 1, 2, 1);
            x = standard();
            call.on(x);
            due("y by x^3 is WHOLE", x.whole(2), 0);
            due("y^2 by x", x.equation(1, 3, 5), 4);
        }
    }

    private static void liesAt() {
        says(33, "The least k such that RING k of its PLACE has the FRACTION; NOT: none has it");
        refused("y by (x - 1)^3", NOT, x -> x.lies(2));
        for (int c = 0; c < 5; c += 2) {
            CurveRingsClosed x = fresh(5, "y^2+(x-" + c + ")^5*y");
            for (int m = 1; m <= 6; m++) {
                due("y by t^" + m, lay(x, 0, "y", c, m), m);
                due("lies", x.lies(0), m <= 5 ? m : NOT);
                lay(x, 1, "y^2-y+x^3", 0, 0);
                x.plus(0, 1, 1);
                due("with a POLYNOMIAL", x.lies(1), m <= 5 ? m : NOT);
                lay(x, 1, "1", c, 1);
                x.plus(0, 1, 1);
                due("with 1 by t", x.lies(1), NOT);
                due("at another PLACE", lay(x, 1, "y", (c + 1) % 5, m) * 10 + x.lies(1), 10 * m + NOT);
            }
        }
        says(33, "of the SHELF that is named, whichever was told last");
        CurveRingsClosed x = standard();
        for (int round = 0; round < 2; round++) {
            due("lies(1)", x.lies(1), 1);
            due("lies(0)", x.lies(0), 0);
            due("lies(2)", x.lies(2), NOT);
        }
        says(33, "0: a POLYNOMIAL");
        x = fresh(5, "y^2+x^5*y");
        lay(x, 0, "y^6+x");
        due("lies", x.lies(0), 0);
        lay(x, 0, "0");
        due("lies", x.lies(0), 0);
        lay(x, 0, "x^2*y", 0, 2);
        due("lies", x.lies(0), 0);
        says(33, "a sum of b_j times POLYNOMIALS");
        x = fresh(5, "y^4-x^4");
        String[] texts = {"y^3", "y^2", "y", "y^3+x*y^2", "y^3+x*y", "y^2+x^3*y+x", "y^3+y"};
        int[] ms = {1, 1, 1, 2, 2, 1, 1};
        int[] lie = {1, 2, 3, 2, 3, 2, 3};
        for (int k = 0; k < texts.length; k++) {
            lay(x, 0, texts[k], 0, ms[k]);
            due(texts[k] + " by x^" + ms[k], x.lies(0), lie[k]);
        }
    }

    /** What is WHOLE over x lies in the last ring, and nothing else does. */
    private static void wholeIsInLast() {
        says(33, "a FRACTION lies in a RING where it is WHOLE, and there alone");
        String[] curves = {"y^2+y*x^2+x^4", "y^3-x^4+x^2*y^2", "(y-1-x)^2-x^5", "y^4+x^2*y+x^6", "(y^2-x^3)*(y-1)", "y^4+x^3*y^3+x^4"};
        int number = 1;
        int both = 0;
        for (int p : new int[] {2, 3, 5}) {
            for (String curve : curves) {
                CurveRingsClosed x = new CurveRingsClosed();
                x.field(p);
                if (tell(x, curve) < 0) {
                    continue;
                }
                int n = x.count(1);
                for (int tries = 0; tries < 25; tries++) {
                    StringBuilder text = new StringBuilder("0");
                    for (int k = 0; k < 3; k++) {
                        number = number * 1103515245 + 12345;
                        int bits = number >>> 8;
                        text.append("+").append(bits % 5).append("*x^").append(bits / 5 % 3).append("*y^").append(bits / 15 % n);
                    }
                    lay(x, 0, text.toString(), 0, 1 + (number >>> 20) % 3);
                    int whole = x.whole(0);
                    both |= 1 << whole;
                    due(text + " by x^" + x.as(0, 0) + " over " + curve + " by " + p, x.lies(0) >= 0 ? 1 : 0, whole);
                }
            }
        }
        due("both come", both, 3);
    }

    private static void weighRefused() {
        says(34, "IllegalArgumentException: no such SHELF");
        for (int s : beside(0, 5)) {
            refused("weigh(" + s + ")", THROWS_ARGUMENT, x -> x.weigh(s, 1));
            refusedBare("weigh(" + s + ")", THROWS_ARGUMENT, x -> x.weigh(s, 1));
        }
        says(34, "IllegalStateException: no ELEMENT on it");
        for (int s = 0; s < 6; s++) {
            int shelf = s;
            if (s > 2) {
                refused("weigh(" + s + ")", THROWS_STATE, x -> x.weigh(shelf, 1));
            }
            refusedBare("weigh(" + s + ")", THROWS_STATE, x -> x.weigh(shelf, 1));
        }
        says(34, "ArithmeticException: a product or sum on the way is no long");
        refused("weigh(0, 10)", THROWS_ARITHMETIC, x -> x.weigh(0, 10));
        refused("weigh(0, least)", THROWS_ARITHMETIC, x -> x.weigh(0, LEAST));
        refused("weigh(0, most)", THROWS_ARITHMETIC, x -> x.weigh(0, MOST));
    }

    private static void weights() {
        says(34, "h becomes h times v, and a number more, for the numbers of a_(n - 1), .., a_0, from x^30 to x^0");
        CurveRingsClosed x = standard();
        due("0", x.weigh(0, 0), 3);
        due("1", x.weigh(0, 1), 4);
        due("-1", x.weigh(0, -1), 2);
        due("2", x.weigh(0, 2), (1L << 33) + 3);
        due("3", x.weigh(0, 3), 5559060566555523L + 3);
        due("2 of a FRACTION", x.weigh(2, 2), 1L << 31);
        for (int n = 2; n <= 4; n++) {
            x = fresh(3, "y^" + n + "-x*y-x");
            for (int j = 0; j < n; j++) {
                lay(x, 0, "y^" + j + "+2*x");
                due("y^" + j + " at -1", x.weigh(0, -1), (j % 2 == 0 ? 1 : -1) - 2);
                due("y^" + j + " at 0", x.weigh(0, 0), j == 0 ? 1 : 0);
                Call at2 = y -> y.weigh(0, 2);
                due("y^" + j + " at 2", answer(at2, x), j == 3 ? THROWS_ARITHMETIC : (1L << 31 * j) + 4);
            }
        }
        says(34, "each from that in front of x^30 down to that of x^0");
        x = powers(30, 0, 0, 30, 1, 0);
        due("x^30 at 2", x.weigh(0, 2), 1L << 30);
        due("x^30 y at 2", x.weigh(1, 2), 1L << 61);
        due("x^30 y at -2", x.weigh(1, -2), -(1L << 61));
        due("x^30 y at 1", x.weigh(1, 1), 1);
        says(34, "in longs, exactly");
        x = fresh(5, "y^3-x^4");
        long[] due = {1L << 62, THROWS_ARITHMETIC, THROWS_ARITHMETIC};
        long[] below = {1L << 62, Long.MIN_VALUE, THROWS_ARITHMETIC};
        for (int i = 0; i < 3; i++) {
            lay(x, 0, "x^" + i + "*y^2");
            due("2^" + (62 + i), answer(y -> y.weigh(0, 2), x), due[i]);
            due("(-2)^" + (62 + i), answer(y -> y.weigh(0, -2), x), below[i]);
        }
        lay(x, 0, "x*y^2+1");
        due("the least long and 1", x.weigh(0, -2), Long.MIN_VALUE + 1);
        lay(x, 0, "x^2");
        due("v the least int", x.weigh(0, LEAST), 1L << 62);
        due("v the greatest int", x.weigh(0, MOST), (long) MOST * MOST);
        lay(x, 0, "2*x^2");
        due("2^63", answer(y -> y.weigh(0, LEAST), x), THROWS_ARITHMETIC);
        lay(x, 0, "2*x^2+2*x");
        due("2^63 - 2^32 - 0", x.weigh(0, MOST), 2L * MOST * MOST + 2L * MOST);
        lay(x, 0, "3*x^2");
        due("beyond", answer(y -> y.weigh(0, MOST), x), THROWS_ARITHMETIC);
        lay(x, 0, "x^3");
        due("beyond", answer(y -> y.weigh(0, LEAST), x), THROWS_ARITHMETIC);
        due("beyond", answer(y -> y.weigh(0, MOST), x), THROWS_ARITHMETIC);
        lay(x, 0, "x-x");
        due("0", x.weigh(0, LEAST), 0);
    }

    /** The element of y^2 - x over p numbers whose weight at v is value times v, and last more. */
    private static CurveRingsClosed weighing(int p, int v, long value, int last) {
        CurveRingsClosed x = fresh(p, "y^2-x*y-x");
        x.row(1, 0, 16);
        int[] digits = new int[62];
        digits[0] = last;
        long rest = value;
        for (int k = 1; k < 62; k++) {
            digits[k] = (int) Math.floorMod(rest, (long) Math.abs(v));
            rest = (rest - digits[k]) / v;
        }
        lay(x, 0, "0");
        for (int step = 3; step >= 0; step--) {
            for (int i = 0; i < 8; i++) {
                boolean told = 8 * step + i < 31;
                x.put(1, i, told ? digits[8 * step + i] : 0);
                x.put(1, 8 + i, told ? digits[31 + 8 * step + i] : 0);
            }
            lay(x, 2, "x^4");
            x.times(0, 2, 0);
            x.times(0, 2, 0);
            x.loads(1, 2);
            x.plus(0, 2, 0);
        }
        return x;
    }

    private static void wideWeights() {
        says(34, "ArithmeticException: a product or sum on the way is no long");
        long third = 3074457345618258603L;
        Call at = y -> y.weigh(0, -3);
        due("a product below the longs, the sum in them", answer(at, weighing(3, -3, third, 1)), THROWS_ARITHMETIC);
        due("a product below the longs", answer(at, weighing(3, -3, third, 0)), THROWS_ARITHMETIC);
        due("the product just in them", answer(at, weighing(3, -3, third - 1, 0)), Long.MIN_VALUE + 2);
        due("the sum too", answer(at, weighing(3, -3, third - 1, 2)), Long.MIN_VALUE + 4);
        due("a product above", answer(at, weighing(3, -3, -third, 0)), THROWS_ARITHMETIC);
        due("a product just in them", answer(at, weighing(3, -3, 1 - third, 1)), Long.MAX_VALUE);
        due("a sum above", answer(at, weighing(3, -3, 1 - third, 2)), THROWS_ARITHMETIC);
        at = y -> y.weigh(0, 3);
        due("the sum is the greatest", answer(at, weighing(3, 3, third - 1, 1)), Long.MAX_VALUE);
        due("a sum above", answer(at, weighing(3, 3, third - 1, 2)), THROWS_ARITHMETIC);
        due("a product above", answer(at, weighing(3, 3, third, 0)), THROWS_ARITHMETIC);
        due("a product below", answer(at, weighing(3, 3, -third - 1, 0)), THROWS_ARITHMETIC);
        at = y -> y.weigh(0, 5);
        long fifth = Long.MAX_VALUE / 5;
        due("the greatest long", answer(at, weighing(5, 5, fifth, 2)), Long.MAX_VALUE);
        due("one more", answer(at, weighing(5, 5, fifth, 3)), THROWS_ARITHMETIC);
        due("the product above", answer(at, weighing(5, 5, fifth + 1, 0)), THROWS_ARITHMETIC);
        at = y -> y.weigh(0, 7);
        long seventh = Long.MAX_VALUE / 7;
        due("the greatest long", answer(at, weighing(7, 7, seventh, 0)), Long.MAX_VALUE);
        due("one more", answer(at, weighing(7, 7, seventh, 1)), THROWS_ARITHMETIC);
    }

    private static CurveRingsClosed fullBook() {
        CurveRingsClosed x = standard();
        for (int k = 2; k < 7; k++) {
            x.wipe();
            lay(x, 5, "y+" + (k - 2) + "*x");
            due("note", x.note(5), k);
        }
        return x;
    }

    private static void notes() {
        says(35, "numbered from 0 as they came; if none that is the same is there: the number of that which is");
        CurveRingsClosed x = standard();
        due("the first", x.note(0), 0);
        due("the second", x.note(1), 1);
        due("none came", x.count(6), 2);
        due("the third", x.note(2), 2);
        due("again", x.note(2), 2);
        due("it came", x.count(6), 3);
        due("its shelf stays", x.as(2, 1), 3);
        says(35, "7 ELEMENTS at most; FULL");
        due("7", fullBook().count(6), 7);
        refused("an eighth", FULL, EdgesOfElementsTest::fullBook, y -> y.note(2));
        for (int k = 0; k < 2; k++) {
            due("one that is there, though it is full", fullBook().note(k), k);
        }
        due("the seventh again", fullBook().note(5), 6);
        says(36, "NOT: there is none");
        refused("find(2)", NOT, y -> y.find(2));
        refused("find in a full one", NOT, EdgesOfElementsTest::fullBook, y -> y.find(2));
        x = fresh(3, "y^2-x");
        lay(x, 0, "y");
        due("in an empty one", x.find(0), NOT);
        due("still empty", x.count(6), 0);
        says(36, "The number of the same one in THE BOOK");
        due("find(0)", standard().find(0), 0);
        due("find(1)", standard().find(1), 1);
        due("the seventh", fullBook().find(5), 6);
    }

    private static void sameOrNot() {
        says(35, "the same: a_j, m and PLACE are");
        String[][] told = {{"y", "0", "0"}, {"y", "0", "1"}, {"y", "0", "2"}, {"y", "1", "1"}, {"x*y", "0", "0"}, {"y+1", "0", "0"},
            {"2*y", "0", "0"}, {"y+2", "0", "0"}, {"y+x", "0", "0"}, {"0", "0", "0"}, {"1", "0", "0"}, {"y^2", "0", "0"},
            {"y^2+y", "0", "0"}};
        for (int a = 0; a < told.length; a++) {
            CurveRingsClosed x = fresh(3, "y^3-x^4+x*y");
            lay(x, 0, told[a][0], told[a][1].charAt(0) - '0', told[a][2].charAt(0) - '0');
            x.note(0);
            for (int b = 0; b < told.length; b++) {
                lay(x, 1, told[b][0], told[b][1].charAt(0) - '0', told[b][2].charAt(0) - '0');
                due(told[b][0] + " where there is " + told[a][0], x.find(1), a == b ? 0 : NOT);
            }
        }
        says(35, "the same, by whichever call it came");
        Call[] makers = {x -> lay(x, 0, "y"), x -> x.basis(0, 0, 0, 1), x -> x.loads(5, 0), x -> x.copyOut(0, 0),
            x -> lay(x, 0, "y*x", 0, 1), x -> x.times(2, 3, 0), x -> x.plus(3, 4, 0)};
        for (Call first : makers) {
            for (Call second : makers) {
                CurveRingsClosed x = manyWays();
                due("it came", first.on(x) >= 0 ? 1 : 0, 1);
                due("it is y", x.note(0), 0);
                lay(x, 1, "y+1", 1, 4);
                x.over(1, 1, 3);
                due("it came", second.on(x) >= 0 ? 1 : 0, 1);
                due("it is the same", x.find(0), 0);
            }
        }
        CurveRingsClosed x = fresh(3, "y^3-x^4+x*y");
        lay(x, 0, "y");
        x.note(0);
        lay(x, 1, "y*(x-2)^3", 2, 3);
        due("a POLYNOMIAL that was by x - 2", x.find(1), 0);
        lay(x, 1, "y", 2, 1);
        lay(x, 2, "x-2");
        x.times(1, 2, 1);
        due("a POLYNOMIAL that was a FRACTION", x.find(1), 0);
        x.note(2);
        x.times(1, 2, 1);
        due("another", x.find(1), NOT);
    }

    /** y in the book; on the shelves what makes y: y by x - 1 and x - 1, x + y less x, a row. */
    private static CurveRingsClosed manyWays() {
        CurveRingsClosed x = fresh(3, "y^3-x^4+x*y");
        lay(x, 0, "y");
        x.note(0);
        x.row(5, 1, 9);
        x.put(5, 8, 1);
        lay(x, 2, "y", 1, 1);
        lay(x, 3, "x-1");
        lay(x, 4, "y-x+1");
        return x;
    }

    private static void copies() {
        says(37, "Number k of THE BOOK; BAD: none such");
        for (int k : beside(0, 1)) {
            refused("copyOut(" + k + ")", BAD, x -> x.copyOut(k, 0));
            refused("copyOut(" + k + ")", BAD, x -> x.copyOut(k, 6));
        }
        for (int k : beside(0, 6)) {
            refused("copyOut(" + k + ")", BAD, EdgesOfElementsTest::fullBook, x -> x.copyOut(k, 0));
        }
        CurveRingsClosed empty = fresh(3, "y^2-x");
        due("of an empty one", empty.copyOut(0, 0), BAD);
        due("nothing came", empty.count(4), 0);
        says(37, "comes to a SHELF: its m");
        for (int to = 0; to < 6; to++) {
            CurveRingsClosed x = standard();
            due("copyOut(1, " + to + ")", x.copyOut(1, to), 1);
            holdsNumbers(x, to, 2, 0, 1);
            due("place", x.place(to), 0);
            due("count(4)", x.count(4), 7 | 1 << to);
            due("count(5)", x.count(5), 24 & ~(1 << to));
            due("copyOut(0, " + to + ")", x.copyOut(0, to), 0);
            holdsNumbers(x, to, 1, 2, 1, 0, 0, 3);
        }
        says(37, "what happens to a SHELF does not happen to THE BOOK");
        CurveRingsClosed x = standard();
        x.over(0, 2, 3);
        x.clear(1);
        x.copyOut(1, 4);
        x.times(4, 4, 4);
        due("copyOut(0, 5)", x.copyOut(0, 5), 0);
        holdsNumbers(x, 5, 1, 2, 1, 0, 0, 3);
        due("copyOut(1, 5)", x.copyOut(1, 5), 1);
        holdsNumbers(x, 5, 2, 0, 1);
        due("the seventh", fullBook().copyOut(6, 0), 0);
        says(37, "the widest that has ROOM");
        x = powers(30, 0, 20, 30, 2, 0);
        due("x^30 y^2", x.note(1), 2);
        due("x^10", x.note(0), 3);
        lay(x, 2, "1", 2, 20);
        due("1 by (x - 2)^20", x.note(2), 4);
        due("copyOut(2, 5)", x.copyOut(2, 5), 0);
        holdsNumbers(x, 5, 2, 30, 1);
        due("it is the same", x.find(5), 2);
        due("copyOut(4, 5)", x.copyOut(4, 5), 20);
        due("it is the same", x.find(5), 4);
        x = powers(29, 2, 0, 30, 2, 0);
        x.note(1);
        due("another by its x^30 alone", x.find(0), NOT);
    }
}
