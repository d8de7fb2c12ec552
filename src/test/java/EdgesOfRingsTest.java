import java.util.function.Supplier;

/** Each sentence of the document that names an edge: numbers of a curve, DISC, points, the rings over a number. */
public final class EdgesOfRingsTest extends Checks {
    /** A curve and LAST of each number of its field. */
    private record Told(int p, int n, String curve, int... last) {
        CurveRingsClosed make() {
            CurveRingsClosed x = fresh(p, curve);
            lay(x, 0, "y+x", p - 1, 2);
            x.note(0);
            x.row(1, 1, 2);
            feed(x, "x");
            return x;
        }
    }

    private static final Told[] TOLD = {
        new Told(7, 2, "(y-1)^2-(x-3)^5", 0, 0, 0, 2, 0, 0, 0), new Told(5, 3, "y^3-x^4", 2, 0, 0, 0, 0),
        new Told(3, 4, "(y^2+1)^2-x^3", 1, 1, 0), new Told(2, 2, "y^2+x*y+x^3", 1, 0),
        new Told(2, 3, "y^3+(x+1)^2+x*y*(x+1)^3", 0, 1), new Told(5, 4, "y^4-(x+1)^4", 0, 0, 0, 0, 3)};

    public static void main(String[] args) {
        for (Told told : TOLD) {
            places(told);
            ringNumbers(told);
            powers(told);
            others(told);
        }
        fronts();
        discs();
        orders();
        multiplicities();
        singulars();
        opens();
        oneByOne();
        longest();
        ordinary();
        bases();
        moved();
        nil();
        points();
        branches();
        conductors();
        genera();
        alternately();
        end("EdgesOfRingsTest");
    }

    private static void places(Told told) {
        Supplier<CurveRingsClosed> made = told::make;
        says(13, "a PLACE is a number c (0 .. p - 1); BAD");
        for (int c : beside(0, told.p - 1)) {
            refused("order", BAD, made, x -> x.order(c));
            refused("multiplicity", BAD, made, x -> x.multiplicity(c, 0));
            refused("multiplicity", BAD, made, x -> x.multiplicity(0, c));
            refused("singular", BAD, made, x -> x.singular(c));
            refused("last", BAD, made, x -> x.last(c));
            refused("depth", BAD, made, x -> x.depth(c, 0, 0));
            refused("digit", BAD, made, x -> x.digit(c, 0, 0, 0, 0));
            refused("lost", BAD, made, x -> x.lost(c, 0));
            refused("classes", BAD, made, x -> x.classes(c, 0, 0));
            refused("table", BAD, made, x -> x.table(c, 0, 0, 0, 0));
            refused("branches", BAD, made, x -> x.branches(c, 0));
            refused("branches", BAD, made, x -> x.branches(0, c));
            refused("conductor", BAD, made, x -> x.conductor(c, 0));
            refused("basis", BAD, made, x -> x.basis(5, c, 0, 0));
        }
        says(13, "LAST");
        CurveRingsClosed x = told.make();
        for (int c = 0; c < told.p; c++) {
            due("last(" + c + ") of " + told.curve, x.last(c), told.last[c]);
        }
    }

    private static void ringNumbers(Told told) {
        Supplier<CurveRingsClosed> made = told::make;
        says(15, "RINGS 0 .. LAST are told; BAD");
        for (int c = 0; c < told.p; c++) {
            int d = c;
            for (int k : beside(0, told.last[c])) {
                refused("depth", BAD, made, x -> x.depth(d, k, 0));
                refused("digit", BAD, made, x -> x.digit(d, k, 0, 0, 0));
                refused("lost", BAD, made, x -> x.lost(d, k));
                refused("classes", BAD, made, x -> x.classes(d, k, 0));
                refused("table", BAD, made, x -> x.table(d, k, 0, 0, 0));
                refused("basis", BAD, made, x -> x.basis(5, d, k, 0));
            }
            CurveRingsClosed x = told.make();
            for (int k = 0; k <= told.last[c]; k++) {
                due("b_0 is 1", x.digit(c, k, 0, 0, 0), 1);
                due("DEPTH_0 is 0", x.depth(c, k, 0), 0);
                due("1 times 1", x.table(c, k, 0, 0, 0), 1);
                due("basis", x.basis(5, c, k, 0), 0);
                due("more than the ring before", k == 0 || x.lost(c, k) > x.lost(c, k - 1) ? 1 : 0, 1);
            }
            due("RING 0", x.lost(c, 0), 0);
        }
    }

    private static void powers(Told told) {
        Supplier<CurveRingsClosed> made = told::make;
        says(16, "j, i 0 .. n - 1, m 0 .. 20; BAD");
        for (int j : beside(0, told.n - 1)) {
            refused("depth", BAD, made, x -> x.depth(0, 0, j));
            refused("digit", BAD, made, x -> x.digit(0, 0, j, 0, 0));
            refused("digit", BAD, made, x -> x.digit(0, 0, 0, j, 0));
            refused("table", BAD, made, x -> x.table(0, 0, 0, j, 0));
            refused("basis", BAD, made, x -> x.basis(5, 0, 0, j));
        }
        for (int m : beside(0, 20)) {
            refused("digit", BAD, made, x -> x.digit(0, 0, 0, 0, m));
        }
        CurveRingsClosed x = told.make();
        for (int j = 0; j < told.n; j++) {
            due("depth", x.depth(0, 0, j), 0);
            for (int i = 0; i < told.n; i++) {
                due("digit in RING 0", x.digit(0, 0, j, i, 0), i == j ? 1 : 0);
                due("m 20", x.digit(0, 0, j, i, 20), 0);
                due("1 times b_" + j, x.table(0, 0, j, i, 0), i == j ? 1 : 0);
            }
        }
        says(19, "both is 4 times i, and j; m 0 .. 60; BAD");
        for (int both = -6; both <= 24; both++) {
            int b = both;
            boolean fits = both >= 0 && both / 4 < told.n && both % 4 < told.n;
            if (fits) {
                due("table " + both, x.table(0, 0, both, 0, 0) >= 0 ? 1 : 0, 1);
                due("m 60", x.table(0, 0, both, 0, 60), 0);
            } else {
                refused("table " + both, BAD, made, y -> y.table(0, 0, b, 0, 0));
            }
        }
        for (int both : new int[] {LEAST, MOST, LEAST + 5, 1 << 30}) {
            refused("table " + both, BAD, made, y -> y.table(0, 0, both, 0, 0));
        }
        for (int m : beside(0, 60)) {
            refused("table", BAD, made, y -> y.table(0, 0, 0, 0, m));
        }
    }

    private static void others(Told told) {
        Supplier<CurveRingsClosed> made = told::make;
        says(18, "what 0, 1; BAD");
        for (int what : beside(0, 1)) {
            refused("classes", BAD, made, x -> x.classes(0, 0, what));
            refused("conductor", BAD, made, x -> x.conductor(0, what));
        }
        says(22, "what 0, 1, 2; BAD");
        for (int what : beside(0, 2)) {
            refused("genus", BAD, made, x -> x.genus(what));
        }
        says(8, "i, j 0 .. 6; BAD");
        for (int i : beside(0, 6)) {
            refused("front", BAD, made, x -> x.front(i, 0));
            refused("front", BAD, made, x -> x.front(0, i));
        }
        says(9, "i 0 .. 40; BAD");
        for (int i : beside(0, 40)) {
            refused("disc", BAD, made, x -> x.disc(i));
        }
        CurveRingsClosed x = told.make();
        due("disc(40)", x.disc(40), 0);
        due("front(6, 6)", x.front(6, 6), 0);
        due("y^n", x.front(0, told.n), 1);
        due("above y^n", x.front(0, told.n + 1), 0);
    }

    private static void fronts() {
        says(8, "In front of x^i y^j in f (i, j 0 .. 6)");
        CurveRingsClosed x = fresh(7, "y^4-2*x*y^3+3*x^3*y^3+4*x^5*y+x^6-3");
        int[][] numbers = {{0, 4, 1}, {1, 3, 5}, {3, 3, 3}, {5, 1, 4}, {6, 0, 1}, {0, 0, 4}};
        for (int e = 0; e < 49; e++) {
            int want = 0;
            for (int[] number : numbers) {
                want = number[0] == e % 7 && number[1] == e / 7 ? number[2] : want;
            }
            due("front(" + e % 7 + ", " + e / 7 + ")", x.front(e % 7, e / 7), want);
        }
    }

    private static void disc(int p, String curve, int... numbers) {
        CurveRingsClosed x = fresh(p, curve);
        for (int i = 0; i <= 40; i++) {
            int want = 0;
            for (int k = 0; k < numbers.length; k += 2) {
                want = numbers[k] == i ? numbers[k + 1] : want;
            }
            due("disc(" + i + ") of " + curve + " by " + p, x.disc(i), want);
        }
    }

    private static void discs() {
        says(9, "In front of x^i in DISC, the determinant of the table with TRACE of y^(i + j)");
        disc(7, "y^2-1", 0, 4);
        disc(7, "y^2-x", 1, 4);
        disc(2, "y^2+y+x", 0, 1);
        disc(3, "y^2+x*y+1", 2, 1, 0, 2);
        disc(7, "y^2+x^5*y+x^6", 10, 1, 6, 3);
        // b^2 c^2 - 4 c^3
        disc(7, "y^3+x^4*y^2+x^5*y", 18, 1, 15, 3);
        disc(2, "y^3+x^4*y^2+x^5*y", 18, 1);
        // - 4 c^3 - 27 d^2
        disc(5, "y^3+x^2*y+x", 6, 1, 2, 3);
        // of y times a cubic: d^2 (b^2 c^2 + d^2)
        disc(2, "y^4+x^3*y^3+x^4*y^2+x^5*y", 24, 1, 20, 1);
        // 256 e^3
        disc(3, "y^4+x^6+1", 18, 1, 0, 1);
        disc(5, "y^4-1", 0, 4);
    }

    private static void orders() {
        says(10, "How many times x - c divides DISC");
        String[][] told = {{"7", "y^2+x^5*y+x^6", "6001100"}, {"7", "y^2-x^3*(x-2)^2*(x+1)", "3020001"},
            {"2", "y^2+y+x", "00"}, {"2", "y^2+(x+1)*y+x", "02"}, {"3", "y^2-x^3+x", "111"}, {"5", "y^2-x^5+x", "11111"},
            {"5", "y^2-(x-4)^5", "00005"}, {"3", "y^2-x^2-1", "000"}, {"3", "y^2-1", "000"}};
        for (String[] one : told) {
            CurveRingsClosed x = fresh(one[0].charAt(0) - '0', one[1]);
            for (int c = 0; c < one[2].length(); c++) {
                due("order(" + c + ") of " + one[1], x.order(c), one[2].charAt(c) - '0');
            }
        }
        due("order 18", fresh(2, "y^3+x^4*y^2+x^5*y").order(0), 18);
        CurveRingsClosed x = fresh(2, "y^4+x^3*y^3+x^4*y^2+x^5*y");
        due("order 20", x.order(0), 20);
        due("order 4", x.order(1), 4);
    }

    private static void multiplicities() {
        says(11, "MULTIPLICITY: the least i + j with a number that isn't 0 in front of t^i s^j (0: f is not 0 there)");
        for (int p : new int[] {2, 3, 5, 7}) {
            for (int c = 0; c < p; c++) {
                int d = (c + 1) % p;
                String t = "(x-" + c + ")";
                String s = "(y-" + d + ")";
                String[] curves = {s + "^2+" + s + "*" + t + "+1", s + "^2+" + s + "+" + t, s + "^2+" + s + "*" + t + "+" + t + "^3",
                    s + "^4+" + s + "*" + t + "^2+" + t + "^4", s + "^4+" + s + "*" + t + "^3+" + t + "^6"};
                for (int many = 0; many < curves.length; many++) {
                    CurveRingsClosed x = fresh(p, curves[many]);
                    due(curves[many] + " by " + p, x.multiplicity(c, d), many);
                    int set = x.singular(c);
                    due("singular", set >> d & 1, many >= 2 ? 1 : 0);
                }
            }
        }
        CurveRingsClosed x = fresh(2, "y^2+x*y+x^3");
        due("f is 1 there", x.multiplicity(1, 0) + x.multiplicity(1, 1) + x.multiplicity(0, 1), 0);
    }

    private static void singulars() {
        says(12, "Numbers d with which c, d is SINGULAR (2 or more), as a set");
        CurveRingsClosed x = fresh(7, "y^2*(y-6)^2-x^3");
        due("0 and 6", x.singular(0), 65);
        due("none", x.singular(1), 0);
        x = fresh(7, "(y-1)*(y-2)*(y-1-x)*(y-2+x)");
        due("1 and 2", x.singular(0), 6);
        due("0 alone", fresh(3, "y^2-x^2-x^3").singular(0), 1);
        due("on the curve, not SINGULAR", fresh(3, "y^2-x").singular(0), 0);
        x = fresh(2, "y^2+x*y+y+(x+1)^3");
        due("0 over 1", x.singular(1), 1);
        due("none over 0", x.singular(0), 0);
        due("1 over 1", fresh(2, "y^2+1+(x+1)*(y+1)+(x+1)^3").singular(1), 2);
    }

    private static void opens() {
        says(14, "PLACES whose LAST is not 0, as a set");
        due("0 and 6", fresh(7, "y^2-x^2*(x-6)^2*(x-3)").open(), 65);
        due("all of 3", fresh(3, "y^2-(x^3-x)^2").open(), 7);
        due("none, though DISC is 0 there twice", fresh(5, "y^3-x").open(), 0);
        due("the other too", fresh(5, "y^3-x").last(0), 0);
        due("none", fresh(2, "y^2+y+x").open(), 0);
        due("1 alone", fresh(2, "y^2+(x+1)*y+(x+1)^3").open(), 2);
        due("over no number", fresh(3, "y^2-(x^2+1)^2*x").open(), 0);
    }

    /** y (y + x^5): RING k has y by x^k. */
    private static void oneByOne() {
        for (int p : new int[] {2, 3, 5, 7}) {
            CurveRingsClosed x = fresh(p, "y^2+x^5*y");
            says(13, "LAST: the least k such that RING k + 1 is the same as RING k");
            due("last(0)", x.last(0), 5);
            due("last(1)", x.last(1), 0);
            due("lost(0, 6)", x.lost(0, 6), BAD);
            for (int k = 0; k <= 5; k++) {
                says(15, "DEPTH_j; LOST: all DEPTH_j together");
                due("depth(0, k, 0)", x.depth(0, k, 0), 0);
                due("depth(0, k, 1)", x.depth(0, k, 1), k);
                due("lost(0, k)", x.lost(0, k), k);
                says(16, "b_j being y^j by t^DEPTH_j");
                for (int m = 0; m <= 20; m++) {
                    due("y by t^" + m, x.digit(0, k, 1, 1, m), m == k ? 1 : 0);
                    due("1 by t^" + m, x.digit(0, k, 1, 0, m), 0);
                    due("y in b_0", x.digit(0, k, 0, 1, m), 0);
                    due("1 in b_0", x.digit(0, k, 0, 0, m), m == 0 ? 1 : 0);
                }
                says(18, "NIL, POINTS of RING k");
                due("nil", x.classes(0, k, 0), k < 5 ? 1 : 0);
                due("points", x.classes(0, k, 1), k < 5 ? 1 : 2);
                says(19, "b_i times b_j as a sum of b_l times POLYNOMIALS in t");
                for (int m = 0; m <= 60; m++) {
                    due("b_1 b_1 by b_1 t^" + m, x.table(0, k, 5, 1, m), m == 5 - k ? p - 1 : 0);
                    due("b_1 b_1 by b_0 t^" + m, x.table(0, k, 5, 0, m), 0);
                    due("b_0 b_1 by b_1 t^" + m, x.table(0, k, 1, 1, m), m == 0 ? 1 : 0);
                    due("b_1 b_0 by b_0 t^" + m, x.table(0, k, 4, 0, m), 0);
                }
            }
            says(21, "CONDUCTOR, CODIMENSION");
            due("conductor", x.conductor(0, 0), 5);
            due("codimension", x.conductor(0, 1), 5);
            says(20, "BRANCHES");
            due("branches(0, 0)", x.branches(0, 0), 2);
            due("branches(0, 1)", x.branches(0, 1), 0);
        }
    }

    /** (y + x^3) (y^3 + y + x^3): they meet 9 times over 0, and the second has a cusp. */
    private static void longest() {
        says(13, "LAST is below 19");
        CurveRingsClosed x = fresh(2, "(y+x^3)*(y^3+y+x^3)");
        due("last(0)", x.last(0), 9);
        due("lost(0, 9)", x.lost(0, 9), 10);
        due("lost(0, 10)", x.lost(0, 10), BAD);
        due("order(0)", x.order(0), 24);
        due("conductor", x.conductor(0, 0), 9);
        due("codimension", x.conductor(0, 1), 10);
        due("branches(0, 0)", x.branches(0, 0), 2);
        due("branches(0, 1)", x.branches(0, 1), 1);
        says(24, "no m is above 18");
        due("basis(0, 0, 9, 3)", x.basis(0, 0, 9, 3), 9);
        due("lies(0)", x.lies(0), 9);
    }

    /** n lines through a point: RING k has all of degree n - 1 - k and more. */
    private static void ordinary() {
        says(15, "DEPTH_j of RING k");
        CurveRingsClosed x = fresh(5, "y^4-x^4");
        int[][] depths = {{0, 0, 0, 0}, {0, 0, 0, 1}, {0, 0, 1, 2}, {0, 1, 2, 3}};
        int[] lost = {0, 1, 3, 6};
        due("last(0)", x.last(0), 3);
        for (int k = 0; k <= 3; k++) {
            due("lost(0, " + k + ")", x.lost(0, k), lost[k]);
            for (int j = 0; j < 4; j++) {
                due("depth(0, " + k + ", " + j + ")", x.depth(0, k, j), depths[k][j]);
                for (int i = 0; i < 4; i++) {
                    for (int m = 0; m <= 20; m++) {
                        due("digit", x.digit(0, k, j, i, m), i == j && m == depths[k][j] ? 1 : 0);
                    }
                }
            }
            due("nil", x.classes(0, k, 0), k < 3 ? 3 : 0);
            due("points", x.classes(0, k, 1), k < 3 ? 1 : 4);
        }
        due("b_3 b_3 is b_2", x.table(0, 3, 15, 2, 0), 1);
        due("b_1 b_3 is 1", x.table(0, 3, 7, 0, 0), 1);
        due("branches(0, 0)", x.branches(0, 0), 4);
        due("conductor", x.conductor(0, 0), 3);
        due("codimension", x.conductor(0, 1), 6);
        due("multiplicity", x.multiplicity(0, 0), 4);
        due("points of lines that are no lines by 3", fresh(3, "y^4-x^4").branches(0, 0), 3);
        due("one line and two hidden ones", fresh(5, "y^3-x^3").branches(0, 0), 2);
        due("three lines", fresh(7, "y^3-x^3").branches(0, 0), 3);
    }

    /** Curves whose last ring is known to lose that much; what is whole and loses that much makes the one BASIS. */
    private static void bases() {
        says(16, "for each i below j, numbers by t^m with m above DEPTH_i, times y^i");
        String[][] told = {{"2", "(y-1-x)^4+x^4*y+x^2", "4"}, {"7", "(y-1-x-x^2)^3-x^6", "6"}, {"5", "(y-3-4*x)^2-x^5", "2"},
            {"5", "(y-2*x)^4-x^5", "6"}, {"7", "(y-2*x-3)^3-x^5", "4"}, {"3", "(y-1-x)^2*(y-2)-x^5", "2"},
            {"3", "(y-1-x-x^2-x^3)*(y-1-x-x^2+x^3)", "3"}, {"5", "((y-x)^2-x^3)^2-x^5*(y-x)", "8"},
            {"2", "y^4+x^6+y^2+x^3*y^3", "10"}, {"5", "y^4+3*x*y^3+x^5*y", "9"}, {"2", "y^4+x^2*y^2+x^4*y", "7"}};
        for (String[] one : told) {
            CurveRingsClosed x = fresh(one[0].charAt(0) - '0', one[1]);
            int n = x.count(1);
            int top = x.last(0);
            due("lost of " + one[1], x.lost(0, top), Integer.parseInt(one[2]));
            for (int j = 0; j < n; j++) {
                for (int i = 0; i < n; i++) {
                    for (int m = 0; m <= 20; m++) {
                        int number = x.digit(0, top, j, i, m);
                        boolean lead = i == j && m == x.depth(0, top, j);
                        boolean may = i < j && m > x.depth(0, top, i);
                        due("digit of " + one[1], lead ? number : may ? 0 : number, lead ? 1 : 0);
                    }
                }
                due("b_" + j + " of " + one[1] + " lies", x.basis(0, 0, top, j) >= 0 && x.lies(0) <= top ? 1 : 0, 1);
                due("b_" + j + " of " + one[1] + " is WHOLE", x.whole(0), 1);
            }
        }
    }

    private static void moved() {
        says(13, "t is x - c: what stands over 0 for x stands over c for x - c");
        String[] curves = {"y^2+#^5*y", "y^3-2*#^4-#^3*y", "(y-1-#)^2-#^3", "y^4-#*y^2-#^5"};
        for (String curve : curves) {
            CurveRingsClosed zero = fresh(7, curve.replace("#", "x"));
            int n = zero.count(1);
            for (int c : new int[] {1, 3, 6}) {
                CurveRingsClosed x = fresh(7, curve.replace("#", "(x-" + c + ")"));
                due("last", x.last(c), zero.last(0));
                for (int k = 0; k <= x.last(c); k++) {
                    for (int e = 0; e < n * n; e++) {
                        int j = e / n;
                        int i = e % n;
                        due("lost", x.lost(c, k), zero.lost(0, k));
                        for (int m = 0; m < 6; m++) {
                            due("digit", x.digit(c, k, j, i, m), zero.digit(0, k, j, i, m));
                            due("table", x.table(c, k, 4 * i + j, m % n, m), zero.table(0, k, 4 * i + j, m % n, m));
                        }
                    }
                    due("nil", x.classes(c, k, 0), zero.classes(0, k, 0));
                    due("points", x.classes(c, k, 1), zero.classes(0, k, 1));
                }
                due("branches", x.branches(c, 1), zero.branches(0, 1));
                due("conductor", x.conductor(c, 0), zero.conductor(0, 0));
            }
        }
    }

    private static void nil() {
        for (int p : new int[] {2, 3, 5, 7}) {
            for (int n = 2; n <= 4; n++) {
                says(18, "NIL: p^NIL CLASSES have a power that is the CLASS of 0");
                CurveRingsClosed x = fresh(p, "y^" + n + "+x*y+x");
                due("last(0)", x.last(0), 0);
                due("nil of y^" + n + " by " + p, x.classes(0, 0, 0), n - 1);
                due("points of y^" + n + " by " + p, x.classes(0, 0, 1), 1);
                says(20, "(y - d)^n a = 0");
                due("branches(0, 0) of y^" + n + " by " + p, x.branches(0, 0), 1);
                due("branches(0, 1) of y^" + n + " by " + p, x.branches(0, 1), 0);
                x = fresh(p, "(y-1)^" + n + "+x*(y-1)+x");
                due("branches(0, 1) of (y - 1)^" + n + " by " + p, x.branches(0, 1), 1);
                due("branches(0, 0) of (y - 1)^" + n + " by " + p, x.branches(0, 0), 0);
            }
        }
    }

    private static void points() {
        for (int p : new int[] {2, 3, 5, 7}) {
            for (int n = 2; n <= 4 && n <= p; n++) {
                says(18, "POINTS: p^POINTS CLASSES a have a^p = a");
                StringBuilder text = new StringBuilder();
                for (int d = p - n; d < p; d++) {
                    text.append("(y-").append(d).append(")*");
                }
                CurveRingsClosed x = fresh(p, text + "1+x");
                due("points", x.classes(0, 0, 1), n);
                due("nil", x.classes(0, 0, 0), 0);
                says(20, "BRANCHES of c, d (a number)");
                for (int d = 0; d < p; d++) {
                    due("branches(0, " + d + ")", x.branches(0, d), d >= p - n ? 1 : 0);
                }
            }
        }
        says(18, "POINTS of what has no number");
        CurveRingsClosed x = fresh(2, "y^2+y+1+x");
        due("points", x.classes(0, 0, 1), 1);
        due("nil", x.classes(0, 0, 0), 0);
        due("branches(0, 0)", x.branches(0, 0), 0);
        due("branches(0, 1)", x.branches(0, 1), 0);
        x = fresh(2, "(y^2+y+1)^2+x*y+x");
        due("points", x.classes(0, 0, 1), 1);
        due("nil", x.classes(0, 0, 0), 2);
        due("two and two hidden", fresh(7, "(y^2+1)*(y^2+2)+x").classes(0, 0, 1), 2);
    }

    private static void branches() {
        says(20, "CLASSES a of the LAST RING");
        due("a node", fresh(3, "y^2-x^2-x^3").branches(0, 0), 2);
        due("a node whose branches are hidden", fresh(3, "y^2+x^2-x^3").branches(0, 0), 1);
        due("a cusp", fresh(3, "y^2-x^3").branches(0, 0), 1);
        due("a tacnode over d = 4", fresh(5, "(y-4)^2-x^4").branches(0, 4), 2);
        due("a tacnode and a line", fresh(5, "(y-4)^3-x^4*(y-4)").branches(0, 4), 3);
        CurveRingsClosed x = fresh(5, "((y-1)^2-x^2)*((y-3)^2-x^3)");
        due("two over 1", x.branches(0, 1), 2);
        due("one over 3", x.branches(0, 3), 1);
        due("none over 0, 2, 4", x.branches(0, 0) + x.branches(0, 2) + x.branches(0, 4), 0);
    }

    private static void conductors() {
        says(21, "CONDUCTOR: the least k such that t^k times each of the LAST RING is in RING 0; CODIMENSION");
        String[][] told = {{"3", "y^2-x", "00"}, {"3", "y^2-x^3", "11"}, {"7", "y^2-x^5", "22"}, {"3", "y^2-x^2-x^3", "11"},
            {"5", "y^2-x^6", "33"}, {"5", "y^3-x^4", "23"}, {"7", "y^3-x^5", "34"}, {"5", "y^4-x^4", "36"},
            {"5", "y^4-x^5", "36"}, {"7", "y^3-x^3", "23"}, {"5", "(y^2-x^3)^2-x^5*y", "48"}};
        for (String[] one : told) {
            CurveRingsClosed x = fresh(one[0].charAt(0) - '0', one[1]);
            due("conductor of " + one[1], x.conductor(0, 0), one[2].charAt(0) - '0');
            due("codimension of " + one[1], x.conductor(0, 1), one[2].charAt(1) - '0');
        }
    }

    private static void genera() {
        says(22, "Half of (DEGREE of f less 1) times (DEGREE less 2), less LOST of all LAST RINGS together");
        String[][] told = {{"3", "y^2-x", "0", "0", "0"}, {"3", "y^2-x^2-1", "0", "0", "0"}, {"3", "y^2-x^2", "0", "1", "-1"},
            {"3", "y^2-x^3", "1", "1", "0"}, {"5", "y^4-x^4", "3", "6", "-3"}, {"7", "y^2-x^5", "6", "2", "4"},
            {"7", "y^2-x^6-1", "10", "0", "10"}, {"5", "(y^2-x^3)^2-x^5*y", "10", "8", "2"},
            {"3", "y^2-(x^2+1)^2*x", "6", "0", "6"}, {"3", "y^2-(x^3-x)^2", "10", "3", "7"}};
        for (String[] one : told) {
            CurveRingsClosed x = fresh(one[0].charAt(0) - '0', one[1]);
            for (int what = 0; what <= 2; what++) {
                due("genus(" + what + ") of " + one[1], x.genus(what), Integer.parseInt(one[2 + what]));
            }
        }
    }

    /** Answers about one number do not depend on what was asked about another, or of another curve. */
    private static void alternately() {
        says(0, "an answer depends on what the object holds alone");
        String curve = "(y^2+1)^2-x^3";
        Call[] calls = {x -> x.branches(0, 0), x -> x.table(1, 1, 15, 0, 1), x -> x.last(2), x -> x.branches(1, 0),
            x -> x.table(0, 1, 10, 0, 0), x -> x.digit(1, 1, 3, 1, 1), x -> x.branches(2, 1), x -> x.table(2, 0, 15, 0, 0),
            x -> x.conductor(1, 0), x -> x.lies(0), x -> x.table(1, 0, 15, 2, 0), x -> x.lies(1), x -> x.whole(0),
            x -> x.disc(3), x -> x.equation(1, 4, 0), x -> x.order(1), x -> x.table(0, 0, 15, 2, 0)};
        long[] own = new long[calls.length];
        for (int k = 0; k < calls.length; k++) {
            own[k] = answer(calls[k], withTwo(fresh(3, curve)));
        }
        for (int step = 1; step < 6; step++) {
            CurveRingsClosed x = fresh(7, "y^2-x^5");
            x.branches(0, 0);
            x.field(3);
            tell(x, curve);
            withTwo(x);
            for (int k = 0; k < 2 * calls.length; k++) {
                int at = k * step % calls.length;
                due("call " + at + " again", answer(calls[at], x), own[at]);
            }
        }
    }

    private static CurveRingsClosed withTwo(CurveRingsClosed x) {
        lay(x, 0, "y^3+y", 0, 1);
        lay(x, 1, "y^2", 1, 1);
        return x;
    }
}
