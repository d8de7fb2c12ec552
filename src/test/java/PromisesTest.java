/** For each promise of the document: ordinary calls, the edges that it names, wrong inputs. */
public final class PromisesTest extends Checks {
    private static long weighing(CurveRingsClosed x, int shelf, int v) {
        return answer(y -> y.weigh(shelf, v), x);
    }

    private static long getting(CurveRingsClosed x, int shelf, int i) {
        return answer(y -> y.get(shelf, i), x);
    }

    public static void main(String[] args) {
        newObject();
        fieldAndTape();
        curves();
        draws();
        discAndPoints();
        rings();
        ringTables();
        elements();
        sumsAndProducts();
        kinds();
        equations();
        weights();
        book();
        rows();
        loadsAndSpills();
        imageAndCounts();
        end("PromisesTest");
    }

    private static void newObject() {
        promise = 1;
        CurveRingsClosed x = new CurveRingsClosed();
        due("count(0)", x.count(0), 3);
        for (int what = 1; what <= 6; what++) {
            due("count(" + what + ")", x.count(what), 0);
        }
        due("front", x.front(0, 0), STATE);
        due("back", x.back(), NOT);
        due("BAD", CurveRingsClosed.BAD, -1);
        due("STATE", CurveRingsClosed.STATE, -2);
        due("NOT", CurveRingsClosed.NOT, -3);
        due("FULL", CurveRingsClosed.FULL, -4);
    }

    private static void fieldAndTape() {
        promise = 2;
        CurveRingsClosed x = fresh(3, "y^2-x^3");
        lay(x, 0, "y");
        x.note(0);
        x.row(1, 0, 2);
        feed(x, "xy");
        int[] none = {-7, -1, 0, 1, 4, 6, 8, 9, 11, Integer.MAX_VALUE, Integer.MIN_VALUE};
        for (int p : none) {
            due("field(" + p + ")", x.field(p), BAD);
        }
        due("nothing changed", x.count(1) + 10 * x.count(4) + 100 * x.count(6), 112);
        due("field(3)", x.field(3), 3);
        due("no curve", x.count(1), 0);
        due("no elements", x.count(4), 0);
        due("rows stay", x.count(5), 2);
        due("no book", x.count(6), 0);
        due("tape stays", x.count(3), 2);
        due("field(7)", x.field(7), 3);
        due("field(5)", x.field(5), 7);
        due("field(2)", x.field(2), 5);

        promise = 3;
        int[][] inverses = {{2, 1, 1}, {3, 2, 2}, {5, 2, 3}, {5, 3, 2}, {5, 4, 4}, {7, 2, 4}, {7, 3, 5}, {7, 6, 6},
            {7, -1, 6}, {7, 8, 1}, {7, Integer.MAX_VALUE, 1}, {7, Integer.MIN_VALUE, 3}, {5, 10, -15}, {5, 0, -15},
            {2, -4, -15}, {3, -1, 2}, {3, Integer.MIN_VALUE, 1}};
        for (int[] row : inverses) {
            x.field(row[0]);
            due("inverse(" + row[1] + ") by " + row[0], x.inverse(row[1]), row[2]);
        }

        promise = 4;
        x = new CurveRingsClosed();
        due("feed(0)", x.feed(0, 1), BAD);
        due("feed(5)", x.feed(5, 1), BAD);
        due("feed(-1)", x.feed(-1, 1), BAD);
        for (int i = 1; i <= 24; i++) {
            due("feed(4)", x.feed(4, 0x20202020), 4 * i);
        }
        due("feed(1)", x.feed(1, 'y'), 97);
        due("feed(4) without room", x.feed(4, 0), FULL);
        due("feed(5) comes first", x.feed(5, 0), BAD);
        due("feed(3)", x.feed(3, '^' | '2' << 8 | ')' << 16 | 'z' << 24), 100);
        due("feed(1) without room", x.feed(1, 0), FULL);
        due("lowest byte first", x.curve(), -199);
        due("feed after", x.feed(2, -1), 2);
        due("bytes have no sign", x.curve(), -100);

        promise = 5;
        due("wipe", x.wipe(), 0);
        feed(x, "y^2");
        due("wipe", x.wipe(), 3);
        due("count(3)", x.count(3), 0);
        due("nothing there", x.curve(), -100);
    }

    private static void curves() {
        promise = 6;
        CurveRingsClosed x = fresh(5, "y^2-x^5");
        lay(x, 2, "y");
        x.note(2);
        String[] none = {"y", "x^2", "5", "y^5+x", "x*y^2", "2*y^2+x", "y^2+x*y^2+x", "y^6", "y^5", "y^4*x+y^3", "y-y"};
        for (String text : none) {
            due("curve " + text, tell(x, text), NOT);
        }
        String[] flat = {"y^2", "(y-x)^2", "(y-x)^2*(y+1)", "y^4+2*x*y^2+x^2"};
        for (String text : flat) {
            due("curve " + text, tell(x, text), -15);
        }
        due("all stays", x.front(5, 0) + 10 * x.count(4) + 100 * x.count(6) + 1000 * x.count(3), 144);
        due("6 y^2 is y^2", tell(x, "6*y^2+5*y^4-x"), 2);
        due("elements go", x.count(4), 0);
        due("the book goes", x.count(6), 0);
        due("n 3", tell(x, "y^3+x"), 3);
        due("n 4", tell(x, "y^4+x^6"), 4);
        due("the same anew", lay(x, 0, "y"), 1);
        due("the same anew", tell(x, "y^4+x^6"), 4);
        due("elements go", x.count(4), 0);
        x.field(2);
        due("a curve whose slope is 0", tell(x, "y^2+x"), -15);
        due("y^4+y", tell(x, "y^4+y+x"), 4);

        promise = 8;
        x = fresh(7, "y^3-2*x*y+x^6+3");
        due("front(0, 3)", x.front(0, 3), 1);
        due("front(1, 1)", x.front(1, 1), 5);
        due("front(6, 0)", x.front(6, 0), 1);
        due("front(0, 0)", x.front(0, 0), 3);
        due("front(6, 6)", x.front(6, 6), 0);
        int[][] beside = {{-1, 0}, {7, 0}, {0, -1}, {0, 7}};
        for (int[] ij : beside) {
            due("front beside", x.front(ij[0], ij[1]), BAD);
        }
        due("front without a curve", new CurveRingsClosed().front(9, 9), STATE);
    }

    private static void draws() {
        promise = 7;
        CurveRingsClosed x = fresh(7, "y^2-x");
        lay(x, 1, "y");
        due("draw(1, 1)", x.draw(1, 1), BAD);
        due("draw(1, 5)", x.draw(1, 5), BAD);
        due("draw(1, -1)", x.draw(1, -1), BAD);
        due("all stays", x.count(4), 2);
        due("draw(-77, 3)", x.draw(-77, 3), 3);
        int z = -77;
        for (int j = 0; j < 3; j++) {
            for (int i = 0; i <= 4 - j; i++) {
                z = z * 1103515245 + 12345;
                due("front(" + i + ", " + j + ")", x.front(i, j), (z >>> 9) % 7);
            }
        }
        due("front(0, 3)", x.front(0, 3), 1);
        due("front(1, 3)", x.front(1, 3), 0);
        due("elements go", x.count(4), 0);
        feed(x, "ab");
        due("draw(0, 4)", x.draw(0, 4), 4);
        due("the tape stays", x.count(3), 2);
        x = new CurveRingsClosed();
        x.field(2);
        tell(x, "y^2+y+x");
        lay(x, 3, "x");
        x.note(3);
        due("draw with DISC 0", x.draw(7, 4), -15);
        due("all stays", x.count(1) + 10 * x.count(4) + 100 * x.count(6), 182);
    }

    private static void discAndPoints() {
        promise = 9;
        CurveRingsClosed x = fresh(7, "y^2+3*x*y+x^3+1");
        // TRACE of 1, y, y^2: 2, -3 x, 9 x^2 - 2 x^3 - 2
        int[] disc = {3, 0, 2, 3};
        for (int i = 0; i <= 40; i++) {
            due("disc(" + i + ")", x.disc(i), i < 4 ? disc[i] : 0);
        }
        due("disc(-1)", x.disc(-1), BAD);
        due("disc(41)", x.disc(41), BAD);
        due("disc without a curve", new CurveRingsClosed().disc(-1), STATE);
        x = fresh(7, "y^3+x*y+1");
        due("-4 x^3 - 27", x.disc(3) + 10 * x.disc(0), 3 + 10);
        x = fresh(5, "y^4+x");
        due("256 x^3", x.disc(3) + 10 * x.disc(0) + 10 * x.disc(4), 1);
        x = fresh(7, "y^4+3*x^3*y^3+2*x^4*y^2+x^5*y");
        // b^2 c^2 d^2 - 4 b^3 d^3, the highest of all
        due("disc(24)", x.disc(24), 5);

        promise = 10;
        x = fresh(7, "y^2-x^3*(x-2)^2*(x+1)");
        int[] order = {3, 0, 2, 0, 0, 0, 1};
        for (int c = 0; c < 7; c++) {
            due("order(" + c + ")", x.order(c), order[c]);
        }
        due("order(-1)", x.order(-1), BAD);
        due("order(7)", x.order(7), BAD);
        due("order without a curve", new CurveRingsClosed().order(-1), STATE);
        due("no x - c at all", fresh(2, "y^2+y+x").order(0), 0);

        promise = 11;
        x = fresh(5, "(y-2)^4-(x-1)^3*y");
        due("multiplicity(1, 2)", x.multiplicity(1, 2), 3);
        due("multiplicity(1, 1)", x.multiplicity(1, 1), 0);
        due("multiplicity(0, 2)", x.multiplicity(0, 2), 0);
        due("multiplicity(2, 3)", x.multiplicity(2, 3), 0);
        x = fresh(5, "y^4+x^4*y+x^5");
        due("multiplicity(0, 0)", x.multiplicity(0, 0), 4);
        x = fresh(3, "y^3-x*y+x^2");
        due("multiplicity(0, 0)", x.multiplicity(0, 0), 2);
        due("multiplicity(2, 1)", x.multiplicity(2, 1), 1);
        int[][] beside = {{-1, 0}, {3, 0}, {0, -1}, {0, 3}};
        for (int[] cd : beside) {
            due("multiplicity beside", x.multiplicity(cd[0], cd[1]), BAD);
        }
        due("without a curve", new CurveRingsClosed().multiplicity(-1, 0), STATE);

        promise = 12;
        x = fresh(7, "(y-1)*(y-2)*(y-1-x)*(y-2+x)");
        due("singular(0)", x.singular(0), 6);
        due("singular(1)", x.singular(1), 6);
        due("singular(4)", x.singular(4), 1 << 5);
        due("singular(2)", x.singular(2), 0);
        due("singular(-1)", x.singular(-1), BAD);
        due("singular(7)", x.singular(7), BAD);
        due("without a curve", new CurveRingsClosed().singular(-1), STATE);
    }

    private static void rings() {
        promise = 13;
        CurveRingsClosed none = new CurveRingsClosed();
        CurveRingsClosed x = fresh(7, "(y-1)^2-(x-3)^5");
        due("last(3)", x.last(3), 2);
        due("last(0)", x.last(0), 0);
        due("last(-1)", x.last(-1), BAD);
        due("last(7)", x.last(7), BAD);
        due("last without a curve", none.last(-1), STATE);
        due("last of a smooth place that DISC shows", fresh(5, "y^3-x").last(0), 0);
        due("last of y^2 - x^6", fresh(5, "y^2-x^6").last(0), 3);
        due("last of y^3 - x^5", fresh(7, "y^3-x^5").last(0), 3);
        // y^2 + 1 makes no number 0: the singular points over 0 have no d of the field
        CurveRingsClosed w = fresh(3, "(y^2+1)^2-x^3");
        due("last(0)", w.last(0), 1);
        due("singular(0)", w.singular(0), 0);

        promise = 14;
        due("open", x.open(), 8);
        due("open of two", w.open(), 3);
        due("open of none", fresh(5, "y^2-x").open(), 0);
        due("open of the highest", fresh(7, "y^2-(x-6)^2*(x-1)").open(), 64);
        due("open without a curve", none.open(), STATE);

        promise = 15;
        due("depth(3, 0, 1)", x.depth(3, 0, 1), 0);
        due("depth(3, 1, 1)", x.depth(3, 1, 1), 1);
        due("depth(3, 2, 1)", x.depth(3, 2, 1), 2);
        due("depth(3, 2, 0)", x.depth(3, 2, 0), 0);
        due("depth(3, 3, 0)", x.depth(3, 3, 0), BAD);
        due("depth(3, -1, 0)", x.depth(3, -1, 0), BAD);
        due("depth(3, 0, 2)", x.depth(3, 0, 2), BAD);
        due("depth(3, 0, -1)", x.depth(3, 0, -1), BAD);
        due("depth(7, 0, 0)", x.depth(7, 0, 0), BAD);
        due("depth(0, 1, 0)", x.depth(0, 1, 0), BAD);
        due("depth without a curve", none.depth(-1, 0, 0), STATE);
        for (int j = 0; j < 4; j++) {
            due("depth(0, 1, " + j + ")", w.depth(0, 1, j), j / 2);
        }

        promise = 16;
        due("y by t", x.digit(3, 1, 1, 1, 1), 1);
        due("1 by t", x.digit(3, 1, 1, 0, 1), 6);
        due("y by t^2", x.digit(3, 2, 1, 1, 2), 1);
        due("1 by t^2", x.digit(3, 2, 1, 0, 2), 6);
        due("1 by t", x.digit(3, 2, 1, 0, 1), 0);
        due("1", x.digit(3, 2, 0, 0, 0), 1);
        due("y in RING 0", x.digit(3, 0, 1, 1, 0), 1);
        due("y in b_0", x.digit(3, 2, 0, 1, 2), 0);
        due("m 20", x.digit(3, 2, 1, 1, 20), 0);
        int[][] beside = {{-1, 0, 0, 0, 0}, {7, 0, 0, 0, 0}, {3, -1, 0, 0, 0}, {3, 3, 0, 0, 0}, {3, 0, -1, 0, 0},
            {3, 0, 2, 0, 0}, {3, 0, 0, -1, 0}, {3, 0, 0, 2, 0}, {3, 0, 0, 0, -1}, {3, 0, 0, 0, 21}};
        for (int[] a : beside) {
            due("digit beside", x.digit(a[0], a[1], a[2], a[3], a[4]), BAD);
        }
        due("digit without a curve", none.digit(-1, 0, 0, 0, 0), STATE);
        due("b_2 is y^2 + 1 by t", w.digit(0, 1, 2, 2, 1) + 10 * w.digit(0, 1, 2, 0, 1) + 100 * w.digit(0, 1, 2, 1, 1), 11);
        due("b_3 is y^3 + y by t", w.digit(0, 1, 3, 3, 1) + 10 * w.digit(0, 1, 3, 1, 1) + 100 * w.digit(0, 1, 3, 0, 1), 11);

        // s = y - 1 - x - x^2: b_1 is s by x^2, b_2 is s^2 by x^4 and 2 b_1
        CurveRingsClosed three = fresh(7, "(y-1-x-x^2)^3-x^6");
        int top = three.last(0);
        int[][] b1 = {{0, 6, 6, 0, 0}, {0, 0, 1, 0, 0}, {0, 0, 0, 0, 0}};
        int[][] b2 = {{0, 0, 1, 2, 1}, {0, 0, 0, 5, 5}, {0, 0, 0, 0, 1}};
        for (int i = 0; i < 3; i++) {
            for (int m = 0; m < 5; m++) {
                due("b_1, y^" + i + " by t^" + m, three.digit(0, top, 1, i, m), b1[i][m]);
                due("b_2, y^" + i + " by t^" + m, three.digit(0, top, 2, i, m), b2[i][m]);
            }
        }

        promise = 17;
        due("lost(3, 0)", x.lost(3, 0), 0);
        due("lost(3, 1)", x.lost(3, 1), 1);
        due("lost(3, 2)", x.lost(3, 2), 2);
        due("lost(3, 3)", x.lost(3, 3), BAD);
        due("lost(3, -1)", x.lost(3, -1), BAD);
        due("lost(-1, 0)", x.lost(-1, 0), BAD);
        due("lost(7, 0)", x.lost(7, 0), BAD);
        due("lost(0, 1)", w.lost(0, 1), 2);
        due("lost without a curve", none.lost(-1, 0), STATE);

        promise = 18;
        CurveRingsClosed node = fresh(3, "y^2-x^2-x^3");
        due("nil of a node", node.classes(0, 0, 0), 1);
        due("points of a node", node.classes(0, 0, 1), 1);
        due("nil of two branches", node.classes(0, 1, 0), 0);
        due("points of two branches", node.classes(0, 1, 1), 2);
        CurveRingsClosed hidden = fresh(3, "y^2+x^2-x^3");
        due("points of one branch of two", hidden.classes(0, 1, 1), 1);
        due("nil of it", hidden.classes(0, 1, 0), 0);
        due("nil over no d", w.classes(0, 0, 0), 2);
        due("points over no d", w.classes(0, 0, 1), 1);
        CurveRingsClosed four = fresh(5, "(y-1)*(y-2)*(y-3)*(y-4)+x^6");
        due("four points", four.classes(0, 0, 1), 4);
        due("no nil", four.classes(0, 0, 0), 0);
        CurveRingsClosed two = fresh(2, "y^4+x*y+x^6");
        due("nil by p below n", two.classes(0, 0, 0), 3);
        due("classes(0, 0, 2)", node.classes(0, 0, 2), BAD);
        due("classes(0, 0, -1)", node.classes(0, 0, -1), BAD);
        due("classes(0, 2, 0)", node.classes(0, 2, 0), BAD);
        due("classes(3, 0, 0)", node.classes(3, 0, 0), BAD);
        due("classes without a curve", none.classes(-1, 0, 0), STATE);
    }

    private static void ringTables() {
        promise = 19;
        CurveRingsClosed none = new CurveRingsClosed();
        CurveRingsClosed x = fresh(7, "y^3-x^4+2*x^3*y");
        // RING 1: 1, y, y^2 by x; RING 2: 1, y by x, y^2 by x^2: b_1 b_1 = b_2, b_1 b_2 = x - 2 b_1 x
        due("last(0)", x.last(0), 2);
        due("1 times 1", x.table(0, 2, 0, 0, 0), 1);
        due("b_1 b_1 by b_2", x.table(0, 2, 5, 2, 0), 1);
        due("b_1 b_1 by b_0", x.table(0, 2, 5, 0, 0), 0);
        due("b_1 b_2 by b_0", x.table(0, 2, 6, 0, 1), 1);
        due("b_1 b_2 by b_1", x.table(0, 2, 6, 1, 1), 5);
        due("b_2 b_1 by b_1", x.table(0, 2, 9, 1, 1), 5);
        due("b_2 b_2 by b_1", x.table(0, 2, 10, 1, 1), 1);
        due("b_2 b_2 by b_2", x.table(0, 2, 10, 2, 1), 5);
        due("y y^2 in RING 0", x.table(0, 0, 6, 0, 4) + 10 * x.table(0, 0, 6, 1, 3), 51);
        due("by t, not by x", x.table(1, 0, 6, 0, 0) + 10 * x.table(1, 0, 6, 0, 1), 41);
        due("m 60", x.table(0, 0, 0, 0, 60), 0);
        int[][] beside = {{-1, 0, 0, 0, 0}, {7, 0, 0, 0, 0}, {0, -1, 0, 0, 0}, {0, 3, 0, 0, 0}, {0, 0, -1, 0, 0},
            {0, 0, 3, 0, 0}, {0, 0, 7, 0, 0}, {0, 0, 12, 0, 0}, {0, 0, 16, 0, 0}, {0, 0, 0, -1, 0}, {0, 0, 0, 3, 0},
            {0, 0, 0, 0, -1}, {0, 0, 0, 0, 61}};
        for (int[] a : beside) {
            due("table beside", x.table(a[0], a[1], a[2], a[3], a[4]), BAD);
        }
        due("table without a curve", none.table(-1, 0, 0, 0, 0), STATE);

        promise = 20;
        CurveRingsClosed many = fresh(5, "(y-x)*(y+x)*(y-2*x)*(y-1)");
        due("three branches", many.branches(0, 0), 3);
        due("one branch", many.branches(0, 1), 1);
        due("no branch", many.branches(0, 2), 0);
        due("hidden branches", fresh(3, "y^2+x^2-x^3").branches(0, 0), 1);
        due("points without d", fresh(3, "(y^2+1)^2-x^3").branches(0, 0), 0);
        due("a tacnode", fresh(3, "y^2-x^4").branches(0, 0), 2);
        due("d that isn't 0", fresh(7, "(y-3)^2-x^4").branches(0, 3), 2);
        due("branches(5, 0)", many.branches(5, 0), BAD);
        due("branches(-1, 0)", many.branches(-1, 0), BAD);
        due("branches(0, 5)", many.branches(0, 5), BAD);
        due("branches(0, -1)", many.branches(0, -1), BAD);
        due("branches without a curve", none.branches(-1, 0), STATE);

        promise = 21;
        due("conductor of y^2 - x^5", fresh(7, "y^2-x^5").conductor(0, 0), 2);
        due("codimension of y^2 - x^5", fresh(7, "y^2-x^5").conductor(0, 1), 2);
        due("conductor of y^3 - x^4", x.conductor(0, 0), 2);
        due("codimension of y^3 - x^4", x.conductor(0, 1), 3);
        due("conductor of a smooth place", x.conductor(1, 0), 0);
        due("codimension of a smooth place", x.conductor(1, 1), 0);
        due("three lines", many.conductor(0, 0), 2);
        due("three lines", many.conductor(0, 1), 3);
        due("conductor(0, 2)", x.conductor(0, 2), BAD);
        due("conductor(0, -1)", x.conductor(0, -1), BAD);
        due("conductor(7, 0)", x.conductor(7, 0), BAD);
        due("conductor without a curve", none.conductor(-1, 0), STATE);

        promise = 22;
        due("genus(0)", many.genus(0), 3);
        // the line y = 1 meets the three others over 1, 4 and 3
        due("genus(1)", many.genus(1), 6);
        due("genus(2)", many.genus(2), -3);
        due("genus of y^2 - x^6 - 1", fresh(7, "y^2-x^6-1").genus(0), 10);
        due("genus(2)", fresh(3, "(y^2+1)^2-x^3").genus(2), 0);
        due("genus of a line twice", fresh(3, "y^2-x^2").genus(0), 0);
        due("genus(3)", many.genus(3), BAD);
        due("genus(-1)", many.genus(-1), BAD);
        due("genus without a curve", none.genus(9), STATE);
    }

    private static void elements() {
        promise = 23;
        CurveRingsClosed x = new CurveRingsClosed();
        feed(x, "y^6+1");
        due("element without a curve", x.element(9), STATE);
        due("the tape stays", x.count(3), 5);
        x.wipe();
        x = fresh(5, "y^2-2*x^5*y-x^6");
        feed(x, "y^6+1");
        due("element(6)", x.element(6), BAD);
        due("element(-1)", x.element(-1), BAD);
        due("the tape stays", x.count(3), 5);
        due("element(5)", x.element(5), 1);
        due("the tape is empty", x.count(3), 0);
        due("32 x^25 in front of y", x.at(5, 1, 25), 2);
        due("16 x^26", x.at(5, 0, 26), 1);
        due("1", x.at(5, 0, 0), 1);
        x.row(5, 0, 3);
        due("a fault", lay(x, 5, "y+"), -102);
        due("the row stays", x.count(5), 32);
        due("in place of a row", lay(x, 5, "y"), 1);
        due("no row", x.count(5), 0);

        promise = 24;
        x = fresh(7, "(y-1)^2-(x-3)^5");
        due("basis(0, 3, 2, 1)", x.basis(0, 3, 2, 1), 2);
        due("its y", x.at(0, 1, 0), 1);
        due("its 1", x.at(0, 0, 0), 6);
        due("its place", x.place(0), 3);
        due("basis(1, 3, 2, 0)", x.basis(1, 3, 2, 0), 0);
        due("1", x.at(1, 0, 0), 1);
        due("basis(2, 3, 0, 1)", x.basis(2, 3, 0, 1), 0);
        due("y", x.at(2, 1, 0), 1);
        int[][] beside = {{-1, 3, 0, 0}, {6, 3, 0, 0}, {0, -1, 0, 0}, {0, 7, 0, 0}, {0, 3, -1, 0}, {0, 3, 3, 0},
            {0, 3, 0, -1}, {0, 3, 0, 2}};
        for (int[] a : beside) {
            due("basis beside", x.basis(a[0], a[1], a[2], a[3]), BAD);
        }
        due("basis without a curve", new CurveRingsClosed().basis(-1, 0, 0, 0), STATE);
        // RING 2 of (y - x)^2 - x^5: y - x by x^2, where the place is 1
        x = fresh(3, "(y-(x-1))^2-(x-1)^5");
        due("basis(4, 1, 2, 1)", x.basis(4, 1, 2, 1), 2);
        due("- x + 1 beside y", x.at(4, 1, 0) + 10 * x.at(4, 0, 0) + 100 * x.at(4, 0, 1), 211);

        promise = 25;
        x = fresh(3, "y^2-x^3");
        lay(x, 0, "x^3*y");
        due("over(0, 0, 2)", x.over(0, 0, 2), 0);
        due("x y", x.at(0, 1, 1), 1);
        due("over(0, 0, 3)", x.over(0, 0, 3), 2);
        due("over(0, 1, 0)", x.over(0, 1, 0), -13);
        due("over(0, 0, 18)", x.over(0, 0, 18), 20);
        due("over(0, 0, 1)", x.over(0, 0, 1), FULL);
        due("it stays", x.as(0, 1), 20);
        due("over(0, 0, 20)", x.over(0, 0, 20), FULL);
        lay(x, 1, "x-x");
        due("0 by x", x.over(1, 0, 5), 0);
        due("no fraction", x.place(1), -13);
        x.row(2, 0, 1);
        due("a row", x.over(2, 0, 1), -13);
        due("nothing", x.over(3, 0, 1), -11);
        due("m 21", x.over(3, 0, 21), BAD);
        due("m -1", x.over(3, 0, -1), BAD);
        due("c 3", x.over(3, 3, 1), BAD);
        due("c -1", x.over(3, -1, 1), BAD);
        due("shelf 6", x.over(6, 0, 1), BAD);
        due("over without a curve", new CurveRingsClosed().over(6, 0, 1), STATE);
    }

    private static void sumsAndProducts() {
        promise = 26;
        CurveRingsClosed x = fresh(3, "y^2-x^5");
        lay(x, 0, "y");
        x.over(0, 0, 2);
        lay(x, 1, "y+1");
        x.over(1, 0, 1);
        due("y by x^2 and y + 1 by x", x.plus(0, 1, 2), 2);
        due("y + x y", x.at(2, 1, 0) + 10 * x.at(2, 1, 1) + 100 * x.at(2, 0, 1) + 1000 * x.at(2, 0, 0), 111);
        lay(x, 3, "2*x");
        due("a fraction and a polynomial", x.plus(0, 3, 4), 2);
        due("2 x^3", x.at(4, 0, 3), 2);
        due("a polynomial and a fraction", x.plus(3, 0, 4), 2);
        lay(x, 3, "2*y");
        x.over(3, 0, 2);
        due("what falls away", x.plus(0, 3, 3), 0);
        due("it is 0", x.at(3, 1, 0), 0);
        lay(x, 4, "1");
        x.over(4, 1, 1);
        due("two places", x.plus(0, 4, 5), -13);
        due("two places", x.times(0, 4, 5), -13);
        lay(x, 3, "(x+1)^6");
        for (int i = 0; i < 2; i++) {
            x.times(3, 3, 3);
        }
        lay(x, 5, "(x+1)^6");
        due("degree 30", x.times(3, 5, 3), 0);
        due("x^30", x.at(3, 0, 30), 1);
        due("degree 31 above x - 1", x.plus(3, 4, 5), FULL);
        due("it stays", x.at(5, 0, 6), 1);
        due("degree 30 again", x.plus(3, 5, 5), 0);
        promise = 27;
        lay(x, 5, "x");
        due("degree 31", x.times(3, 5, 3), FULL);
        lay(x, 4, "1");
        x.over(4, 2, 20);
        due("degree 30 by (x + 1)^20", x.times(3, 4, 5), 0);
        due("(x + 1)^10", x.at(5, 0, 10) + 10 * x.at(5, 0, 9) + 100 * x.at(5, 0, 11), 11);
        lay(x, 0, "y");
        x.over(0, 0, 12);
        due("y y by x^24 is 1 by x^19", x.times(0, 0, 1), 19);
        due("1", x.at(1, 0, 0), 1);
        due("m 38", x.times(1, 1, 2), FULL);
        lay(x, 2, "x^6");
        due("y by x^6", x.times(0, 2, 0), 6);
        due("y^2 by x^12", x.times(0, 0, 0), 7);
        due("itself and itself", x.plus(0, 0, 0), 7);
        due("2 by x^7", x.at(0, 0, 0), 2);
        x.clear(0);
        x.row(1, 0, 4);
        for (int op = 0; op < 2; op++) {
            promise = 26 + op;
            due("shelf -1", op == 0 ? x.plus(-1, 2, 2) : x.times(-1, 2, 2), BAD);
            due("shelf 6", op == 0 ? x.plus(2, 6, 2) : x.times(2, 6, 2), BAD);
            due("to 6", op == 0 ? x.plus(0, 1, 6) : x.times(0, 1, 6), BAD);
            due("nothing ahead of a row", op == 0 ? x.plus(1, 0, 2) : x.times(1, 0, 2), -11);
            due("nothing", op == 0 ? x.plus(0, 2, 2) : x.times(0, 2, 2), -11);
            due("a row", op == 0 ? x.plus(1, 2, 2) : x.times(1, 2, 2), -13);
            due("a row", op == 0 ? x.plus(2, 1, 2) : x.times(2, 1, 2), -13);
            CurveRingsClosed none = new CurveRingsClosed();
            due("without a curve", op == 0 ? none.plus(9, 9, 9) : none.times(9, 9, 9), STATE);
        }
        due("to a row", x.times(2, 2, 1), 0);
        due("x^12", x.at(1, 0, 12), 1);
    }

    private static void kinds() {
        CurveRingsClosed none = new CurveRingsClosed();
        none.row(0, 0, 1);
        CurveRingsClosed x = fresh(5, "y^3-x^4");
        lay(x, 0, "3*x^4*y^2");
        lay(x, 1, "y");
        x.over(1, 4, 3);
        x.row(2, 0, 1);

        promise = 28;
        due("at(0, 2, 4)", x.at(0, 2, 4), 3);
        due("at(0, 2, 30)", x.at(0, 2, 30), 0);
        due("at of a fraction", x.at(1, 1, 0), 1);
        due("at(0, 3, 0)", x.at(0, 3, 0), BAD);
        due("at(0, -1, 0)", x.at(0, -1, 0), BAD);
        due("at(0, 0, 31)", x.at(0, 0, 31), BAD);
        due("at(0, 0, -1)", x.at(0, 0, -1), BAD);
        due("at(6, 0, 0)", x.at(6, 0, 0), BAD);
        due("BAD ahead of nothing", x.at(3, 0, 31), BAD);
        due("nothing", x.at(3, 0, 0), -11);
        due("a row", x.at(2, 0, 0), -13);
        due("without a curve", none.at(9, 0, 0), STATE);

        promise = 29;
        due("a polynomial", x.as(0, 0), 0);
        due("no fraction", x.as(0, 1), -13);
        due("a fraction under polynomial", x.as(1, 0), 3);
        due("a fraction", x.as(1, 1), 3);
        due("kind 2", x.as(1, 2), BAD);
        due("kind -1", x.as(3, -1), BAD);
        due("shelf -1", x.as(-1, 0), BAD);
        due("nothing", x.as(3, 0), -11);
        due("a row", x.as(2, 0), -13);
        due("without a curve", none.as(0, 0), STATE);

        promise = 30;
        due("place", x.place(1), 4);
        due("a polynomial", x.place(0), -13);
        due("a row", x.place(2), -13);
        due("nothing", x.place(3), -11);
        due("shelf 6", x.place(6), BAD);
        due("without a curve", none.place(0), STATE);

        promise = 33;
        due("a polynomial", x.lies(0), 0);
        due("none has it", x.lies(1), NOT);
        lay(x, 3, "y^2");
        x.over(3, 0, 1);
        due("y^2 by x", x.lies(3), 1);
        x.over(3, 0, 1);
        due("y^2 by x^2", x.lies(3), 2);
        x.over(3, 0, 1);
        due("y^2 by x^3", x.lies(3), NOT);
        lay(x, 4, "x*y+x^3");
        x.over(4, 0, 2);
        due("y by x and x", x.lies(4), 2);
        due("nothing", x.lies(5), -11);
        due("a row", x.lies(2), -13);
        due("shelf 6", x.lies(6), BAD);
        due("without a curve", none.lies(0), STATE);
    }

    private static void equations() {
        CurveRingsClosed none = new CurveRingsClosed();
        none.row(0, 0, 1);
        CurveRingsClosed x = fresh(3, "y^2-x^3");
        lay(x, 0, "x+y");
        lay(x, 1, "x^2+y");
        x.over(1, 0, 1);
        lay(x, 2, "y");
        x.over(2, 0, 2);
        x.row(3, 1, 2);
        promise = 31;
        due("a polynomial", x.whole(0), 1);
        due("y by x, and x", x.whole(1), 1);
        due("y by x^2", x.whole(2), 0);
        due("a row", x.whole(3), -13);
        due("nothing", x.whole(4), -11);
        due("shelf 6", x.whole(6), BAD);
        due("without a curve", none.whole(0), STATE);
        promise = 32;
        // (T - x)^2 - x^3
        due("g_1", x.equation(0, 1, 1), 1);
        due("g_2 x^2", x.equation(0, 2, 2), 1);
        due("g_2 x^3", x.equation(0, 2, 3), 2);
        // (T - x)^2 - x
        due("g_1", x.equation(1, 1, 1), 1);
        due("g_2 x", x.equation(1, 2, 1), 2);
        due("g_2 x^2", x.equation(1, 2, 2), 1);
        due("g_2 x^199", x.equation(1, 2, 199), 0);
        due("not whole", x.equation(2, 1, 0), NOT);
        due("j 0", x.equation(0, 0, 0), BAD);
        due("j 3", x.equation(0, 3, 0), BAD);
        due("i -1", x.equation(0, 1, -1), BAD);
        due("i 200", x.equation(0, 1, 200), BAD);
        due("shelf -1", x.equation(-1, 1, 0), BAD);
        due("nothing", x.equation(4, 1, 0), -11);
        due("a row", x.equation(3, 1, 0), -13);
        due("without a curve", none.equation(0, 1, 0), STATE);
        // another element on the shelf has another equation
        lay(x, 0, "y");
        due("g_1 of y", x.equation(0, 1, 1), 0);
        due("a curve that is none stays without effect", tell(x, "y^2"), -15);
        due("g_2 of y", x.equation(0, 2, 3), 2);
        x.times(0, 0, 0);
        due("g_1 of x^3", x.equation(0, 1, 3), 1);
        due("g_2 of x^3", x.equation(0, 2, 6), 1);
        x.over(0, 0, 4);
        due("1 by x", x.equation(0, 2, 0), NOT);
        // the highest that can be: x^30 y^3 for y of degree 3
        CurveRingsClosed h = fresh(7, "y^4+x^3*y^3+x^6+1");
        lay(h, 0, "x^6*1");
        h.times(0, 0, 1);
        h.times(1, 1, 1);
        h.times(0, 1, 1);
        lay(h, 2, "y^3");
        due("x^30 y^3", h.times(1, 2, 1), 0);
        due("g_4 is (x^6 + 1)^3 x^120", h.equation(1, 4, 138) + 10 * h.equation(1, 4, 120) + 100 * h.equation(1, 4, 126), 311);
        due("g_1 is x^39 and more", h.equation(1, 1, 39), 1);
    }

    private static void digitsOf(CurveRingsClosed x, long number, long more) {
        // the numbers of number + more by 7, the lowest in front of x^0
        java.math.BigInteger rest = java.math.BigInteger.valueOf(number).add(java.math.BigInteger.valueOf(more));
        x.row(5, 0, 8);
        lay(x, 4, "x^6");
        lay(x, 3, "x^2");
        x.times(4, 3, 4);
        lay(x, 0, "0");
        int[] digits = new int[24];
        for (int i = 0; i < 24; i++) {
            digits[i] = rest.mod(java.math.BigInteger.valueOf(7)).intValue();
            rest = rest.divide(java.math.BigInteger.valueOf(7));
        }
        for (int part = 2; part >= 0; part--) {
            for (int i = 0; i < 8; i++) {
                x.put(5, i, digits[8 * part + i]);
            }
            x.loads(5, 3);
            x.times(0, 4, 0);
            x.plus(0, 3, 0);
        }
    }

    private static void weights() {
        promise = 34;
        CurveRingsClosed x = fresh(3, "y^2-x");
        lay(x, 0, "y");
        due("2^31", x.weigh(0, 2), 1L << 31);
        due("- 2^31", x.weigh(0, -2), -(1L << 31));
        due("2^62", x.weigh(0, 4), 1L << 62);
        due("5^31", weighing(x, 0, 5), THROWS_ARITHMETIC);
        due("by 0", x.weigh(0, 0), 0);
        due("by 1", x.weigh(0, 1), 1);
        due("by -1", x.weigh(0, -1), -1);
        lay(x, 1, "2*y");
        due("2^63", weighing(x, 1, 4), THROWS_ARITHMETIC);
        due("- 2^63", x.weigh(1, -4), Long.MIN_VALUE);
        lay(x, 2, "2*x^2+x+1");
        due("2 v^2 + v + 1", x.weigh(2, 1000), 2001001);
        due("2^63 - 2^31 + 1", x.weigh(2, Integer.MIN_VALUE), Long.MAX_VALUE - (1L << 31) + 2);
        lay(x, 2, "2*x^2+1");
        due("by the least int", weighing(x, 2, Integer.MIN_VALUE), THROWS_ARITHMETIC);
        lay(x, 2, "x^2+2");
        due("by the least int", x.weigh(2, Integer.MIN_VALUE), (1L << 62) + 2);
        due("by the greatest int", x.weigh(2, Integer.MAX_VALUE), (long) Integer.MAX_VALUE * Integer.MAX_VALUE + 2);
        lay(x, 3, "y+2");
        x.over(3, 0, 1);
        due("what is above of a fraction", x.weigh(3, 2), (1L << 31) + 2);
        x.row(4, 0, 1);
        due("a row", weighing(x, 4, 1), THROWS_STATE);
        due("nothing", weighing(x, 5, 1), THROWS_STATE);
        due("shelf 6", weighing(x, 6, 1), THROWS_ARGUMENT);
        due("shelf -1", weighing(x, -1, 1), THROWS_ARGUMENT);
        due("without a curve", weighing(new CurveRingsClosed(), 0, 1), THROWS_STATE);
        x = fresh(7, "y^2-x");
        digitsOf(x, Long.MAX_VALUE, 0);
        due("the greatest long", x.weigh(0, 7), Long.MAX_VALUE);
        digitsOf(x, Long.MAX_VALUE, 1);
        due("a sum that is no long", weighing(x, 0, 7), THROWS_ARITHMETIC);
        x = fresh(2, "y^4+y+x");
        lay(x, 0, "y^3");
        due("93 steps by -1", x.weigh(0, -1), -1);
        due("93 steps by 2", weighing(x, 0, 2), THROWS_ARITHMETIC);
    }

    private static void book() {
        CurveRingsClosed none = new CurveRingsClosed();
        none.row(0, 0, 1);
        CurveRingsClosed x = fresh(3, "y^2-x^3");
        x.row(5, 0, 1);
        promise = 35;
        for (int k = 0; k < 7; k++) {
            lay(x, 0, "y+" + k % 3 + "*x+x^" + (2 + k / 3));
            due("note " + k, x.note(0), k);
        }
        due("the same", x.note(0), 6);
        lay(x, 1, "y");
        due("an eighth", x.note(1), FULL);
        lay(x, 1, "y+x^2");
        due("the first, though full", x.note(1), 0);
        due("count(6)", x.count(6), 7);
        due("a row", x.note(5), -13);
        due("nothing", x.note(4), -11);
        due("shelf 6", x.note(6), BAD);
        due("without a curve", none.note(0), STATE);
        promise = 36;
        due("find", x.find(1), 0);
        lay(x, 2, "y+1");
        due("none", x.find(2), NOT);
        lay(x, 2, "y+x^2+1");
        due("another by its 1 alone", x.find(2), NOT);
        due("a row", x.find(5), -13);
        due("nothing", x.find(4), -11);
        due("shelf -1", x.find(-1), BAD);
        due("without a curve", none.find(0), STATE);
        promise = 37;
        due("copyOut(3, 3)", x.copyOut(3, 3), 0);
        due("y + x^3", x.at(3, 1, 0) + 10 * x.at(3, 0, 3) + 100 * x.at(3, 0, 1), 11);
        due("to a row", x.copyOut(6, 5), 0);
        due("no row", x.count(5), 0);
        due("copyOut(7, 0)", x.copyOut(7, 0), BAD);
        due("copyOut(-1, 0)", x.copyOut(-1, 0), BAD);
        due("copyOut(0, 6)", x.copyOut(0, 6), BAD);
        due("without a curve", none.copyOut(9, 9), STATE);
        promise = 36;
        x = fresh(3, "y^2-x^3");
        lay(x, 0, "1");
        x.over(0, 0, 1);
        lay(x, 1, "1");
        x.over(1, 1, 1);
        lay(x, 2, "1");
        due("1 by x", x.note(0), 0);
        due("1 by x - 1 is another", x.note(1), 1);
        due("1 is another", x.note(2), 2);
        lay(x, 3, "x^2+x-2");
        x.over(3, 1, 1);
        lay(x, 4, "x+2");
        due("lowest terms", x.note(3), 3);
        due("the same", x.find(4), 3);
        x.basis(5, 0, 1, 1);
        due("b_1", x.note(5), 4);
        due("copyOut", x.copyOut(4, 0), 1);
        due("it is the same", x.find(0), 4);
        due("draw", x.draw(3, 2), 2);
        due("the book is empty", x.count(6), 0);
    }

    private static void rows() {
        promise = 38;
        CurveRingsClosed x = new CurveRingsClosed();
        due("row(0, 0, 40)", x.row(0, 0, 40), 1);
        due("row(1, 1, 0)", x.row(1, 1, 0), 1);
        due("row(5, 1, 3)", x.row(5, 1, 3), 1);
        due("count(5)", x.count(5), 35);
        due("n 41", x.row(0, 0, 41), BAD);
        due("n -1", x.row(0, 0, -1), -14);
        due("sort 2", x.row(0, 2, 1), BAD);
        due("sort -1, n -1", x.row(0, -1, -1), BAD);
        due("shelf 6", x.row(6, 0, -1), BAD);
        due("shelf -1", x.row(-1, 0, 1), BAD);
        for (int i = 0; i < 40; i++) {
            due("0 at first", x.get(0, i), 0);
        }
        promise = 39;
        due("put", x.put(0, 39, -5), 1);
        due("put", x.put(0, 0, Integer.MIN_VALUE), 1);
        due("an int too high", x.put(0, 0, 1L << 31), -16);
        due("an int too low", x.put(0, 0, -(1L << 31) - 1), -16);
        due("a long", x.put(5, 2, Long.MIN_VALUE), 1);
        due("no place ahead of no int", x.put(0, 40, 1L << 40), -12);
        due("place -1", x.put(0, -1, 0), -12);
        due("place 0 of none", x.put(1, 0, 0), -12);
        due("nothing", x.put(2, 0, 0), -11);
        due("shelf 6", x.put(6, 0, 0), BAD);
        promise = 40;
        due("get", x.get(0, 39), -5);
        due("get", x.get(0, 0), Integer.MIN_VALUE);
        due("get", x.get(5, 2), Long.MIN_VALUE);
        due("place 40", getting(x, 0, 40), THROWS_STATE);
        due("place -1", getting(x, 0, -1), THROWS_STATE);
        due("nothing", getting(x, 2, 0), THROWS_STATE);
        due("shelf 6", getting(x, 6, 0), THROWS_ARGUMENT);
        due("shelf -1", getting(x, -1, -1), THROWS_ARGUMENT);
        due("a row anew", x.row(0, 0, 40), 1);
        due("is 0", x.get(0, 39), 0);
        due("is 0", x.get(0, 0), 0);
        promise = 41;
        for (int i = 0; i < 3; i++) {
            x.put(5, i, i + 1);
        }
        x.row(4, 1, 5);
        due("copy", x.copy(5, 0, 4, 2, 3), 3);
        due("3", x.get(4, 4), 3);
        due("up in itself", x.copy(4, 2, 4, 3, 2), 2);
        due("1 1 2", 100 * x.get(4, 2) + 10 * x.get(4, 3) + x.get(4, 4), 112);
        due("down in itself", x.copy(4, 2, 4, 0, 3), 3);
        due("1 1 2 1 2", 1000 * x.get(4, 0) + 100 * x.get(4, 1) + 10 * x.get(4, 2) + x.get(4, 3), 1121);
        due("none", x.copy(4, 5, 5, 3, 0), 0);
        due("from beyond", x.copy(4, 6, 5, 0, 0), -12);
        due("too many", x.copy(4, 3, 5, 0, 3), -12);
        due("too many there", x.copy(4, 0, 5, 1, 3), -12);
        due("n -1", x.copy(4, 0, 5, 0, -1), -12);
        due("i -1", x.copy(4, -1, 5, 0, 1), -12);
        due("j -1", x.copy(4, 0, 5, -1, 1), -12);
        due("far", x.copy(4, Integer.MAX_VALUE, 5, 0, Integer.MAX_VALUE), -12);
        due("far", x.copy(4, 1, 5, 1, Integer.MAX_VALUE), -12);
        due("two sorts", x.copy(0, 0, 5, 0, -1), -13);
        due("nothing", x.copy(0, 0, 2, 0, 1), -11);
        due("nothing", x.copy(2, 0, 0, 0, 1), -11);
        due("shelf 6", x.copy(6, 0, 2, 0, 1), BAD);
        due("shelf -1", x.copy(2, 0, -1, 0, 1), BAD);
        tell(x, "y^2-x^3");
        lay(x, 3, "y");
        due("an element", x.copy(3, 0, 0, 0, 0), -13);
        due("an element", x.copy(0, 0, 3, 0, 0), -13);
        due("nothing ahead of an element", x.copy(3, 0, 2, 0, 0), -11);
        promise = 39;
        due("an element", x.put(3, 0, 0), -13);
        promise = 40;
        due("an element", getting(x, 3, 0), THROWS_STATE);
        promise = 44;
        due("an element", x.clear(3), 1);
        due("nothing", x.clear(3), 0);
        due("a row", x.clear(0), 1);
        due("count(5)", x.count(5), 50);
        due("count(4)", x.count(4), 0);
        due("shelf 6", x.clear(6), BAD);
        due("shelf -1", x.clear(-1), BAD);
    }

    private static void loadsAndSpills() {
        promise = 42;
        CurveRingsClosed x = new CurveRingsClosed();
        x.row(0, 1, 40);
        due("without a curve", x.loads(9, 9), STATE);
        due("without a curve", x.spills(9, 9), STATE);
        x.field(5);
        tell(x, "y^3-x");
        x.put(0, 7, 7);
        x.put(0, 8, -1);
        x.put(0, 23, Long.MIN_VALUE);
        x.put(0, 24, 1);
        due("loads of 40", x.loads(0, 1), 24);
        due("x^7", x.at(1, 0, 7), 2);
        due("y", x.at(1, 1, 0), 4);
        due("x^7 y^2", x.at(1, 2, 7), 2);
        due("x^8", x.at(1, 0, 8), 0);
        x.row(2, 0, 9);
        x.put(2, 8, Integer.MIN_VALUE);
        due("loads of 9", x.loads(2, 3), 9);
        due("y", x.at(3, 1, 0), 2);
        due("where the row has none", x.at(3, 2, 7), 0);
        due("nothing", x.loads(5, 1), -11);
        due("an element", x.loads(1, 2), -13);
        due("shelf 6", x.loads(5, 6), BAD);
        due("shelf -1", x.loads(-1, 1), BAD);
        promise = 43;
        lay(x, 3, "x^5*y+4*y+3");
        x.times(3, 3, 4);
        due("spills to 9", x.spills(3, 2), 9);
        due("3", x.get(2, 0), 3);
        due("4", x.get(2, 8), 4);
        due("spills to 40", x.spills(3, 0), 24);
        due("x^5 y", x.get(0, 13), 1);
        due("0", x.get(0, 23), 0);
        due("beyond them it stays", x.get(0, 24), 1);
        due("x^10 y^2 has no place", x.spills(4, 0), 24);
        due("8 x^5 y^2", x.get(0, 21), 3);
        x.row(5, 0, 0);
        due("spills to none", x.spills(3, 5), 0);
        x.over(4, 0, 1);
        due("a fraction", x.spills(4, 0), -13);
        due("a row", x.spills(0, 2), -13);
        due("to an element", x.spills(3, 1), -13);
        x.clear(5);
        due("nothing", x.spills(5, 0), -11);
        due("to nothing", x.spills(0, 5), -11);
        due("shelf 6", x.spills(6, 5), BAD);
        due("shelf -1", x.spills(5, -1), BAD);
        promise = 42;
        due("onto itself", x.loads(0, 0), 24);
        due("no row any more", x.count(5), 4);
        due("elements", x.count(4), 27);
    }

    private static void imageAndCounts() {
        promise = 45;
        CurveRingsClosed x = new CurveRingsClosed();
        due("image of none", x.image(), 3);
        x.field(7);
        tell(x, "y^2-(x-3)^3");
        lay(x, 0, "y");
        x.note(0);
        due("back", x.back(), 3);
        due("no curve", x.last(0), STATE);
        due("no elements", x.count(4) + x.count(6), 0);
        x.field(7);
        tell(x, "y^2-(x-3)^3");
        lay(x, 0, "y");
        due("image", x.image(), 7);
        due("it changes nothing", x.count(4), 1);
        due("last(3)", x.last(3), 1);
        promise = 46;
        due("another", tell(x, "y^4-x"), 4);
        due("last(3)", x.last(3), 0);
        lay(x, 1, "y^3");
        x.note(1);
        x.row(2, 0, 1);
        feed(x, "x");
        due("back", x.back(), 7);
        due("n", x.count(1), 2);
        due("degree", x.count(2), 3);
        due("order(3)", x.order(3), 3);
        due("last(3)", x.last(3), 1);
        // 4 (x - 3)^3
        due("disc(0)", x.disc(0), 4);
        due("elements go", x.count(4), 0);
        due("the book goes", x.count(6), 0);
        due("rows stay", x.count(5), 4);
        due("the tape stays", x.wipe(), 1);
        due("back again", x.field(2) * 10 + x.back(), 77);
        due("n", x.count(1), 2);
        due("no image", new CurveRingsClosed().back(), NOT);
        promise = 47;
        due("count(0)", x.count(0), 7);
        due("count(7)", x.count(7), BAD);
        due("count(-1)", x.count(-1), BAD);
        tell(x, "y^2+x^6*0-x^3*y^1+1");
        due("degree", x.count(2), 4);
    }
}
