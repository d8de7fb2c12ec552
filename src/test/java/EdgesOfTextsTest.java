/** Each sentence of the document that names an edge: a new object, the field, the tape, texts, curves, drawn curves. */
public final class EdgesOfTextsTest extends Checks {
    private static final int[] FIELDS = {2, 3, 5, 7};

    public static void main(String[] args) {
        newObject();
        withoutCurve();
        fields();
        inverses();
        feeds();
        wipes();
        tokens();
        grammar();
        faults();
        ends();
        highs();
        oneByOne();
        workedOut();
        notSuch();
        flat();
        refusedCurves();
        enteredCurves();
        draws();
        drawnOverOld();
        end("EdgesOfTextsTest");
    }

    private static void newObject() {
        CurveRingsClosed x = new CurveRingsClosed();
        says(1, "p is 3 at first");
        due("count(0)", x.count(0), 3);
        due("inverse(2)", x.inverse(2), 2);
        due("inverse(3)", x.inverse(3), NO_NUMBER);
        says(1, "no CURVE at first");
        due("count(1)", x.count(1), 0);
        due("count(2)", x.count(2), 0);
        says(1, "THE TAPE is empty");
        due("count(3)", x.count(3), 0);
        due("wipe()", x.wipe(), 0);
        due("curve()", x.curve(), -100);
        says(1, "SHELVES hold nothing at first");
        due("count(4)", x.count(4), 0);
        due("count(5)", x.count(5), 0);
        for (int s = 0; s < 6; s++) {
            int shelf = s;
            due("clear", x.clear(s), 0);
            due("put", x.put(s, 0, 0), EMPTY);
            due("get", answer(y -> y.get(shelf, 0), x), THROWS_STATE);
            due("weigh", answer(y -> y.weigh(shelf, 0), x), THROWS_STATE);
        }
        says(1, "THE BOOK is empty at first");
        due("count(6)", x.count(6), 0);
        due("draw(1, 2)", x.draw(1, 2), 2);
        due("copyOut(0, 0)", x.copyOut(0, 0), BAD);
        says(46, "NOT: there is none");
        due("back()", x.back(), NOT);
        due("the curve stays", x.count(1), 2);
        says(1, "an object knows nothing of another");
        due("count(1)", new CurveRingsClosed().count(1), 0);
        says(0, "the constants");
        due("BAD", CurveRingsClosed.BAD, -1);
        due("STATE", CurveRingsClosed.STATE, -2);
        due("NOT", CurveRingsClosed.NOT, -3);
        due("FULL", CurveRingsClosed.FULL, -4);
    }

    /** Each call that names STATE: first with numbers that would be fine, then with none that is. */
    private static void withoutCurve() {
        says(0, "STATE (-2): there is no CURVE; of several the first that the call's words name");
        for (int b : new int[] {0, -1, 9, LEAST, MOST}) {
            refusedBare("front", STATE, x -> x.front(b, b));
            refusedBare("disc", STATE, x -> x.disc(b));
            refusedBare("order", STATE, x -> x.order(b));
            refusedBare("multiplicity", STATE, x -> x.multiplicity(b, b));
            refusedBare("singular", STATE, x -> x.singular(b));
            refusedBare("last", STATE, x -> x.last(b));
            refusedBare("open", STATE, x -> x.open());
            refusedBare("depth", STATE, x -> x.depth(b, b, b));
            refusedBare("digit", STATE, x -> x.digit(b, b, b, b, b));
            refusedBare("lost", STATE, x -> x.lost(b, b));
            refusedBare("classes", STATE, x -> x.classes(b, b, b));
            refusedBare("table", STATE, x -> x.table(b, b, b, b, b));
            refusedBare("branches", STATE, x -> x.branches(b, b));
            refusedBare("conductor", STATE, x -> x.conductor(b, b));
            refusedBare("genus", STATE, x -> x.genus(b));
            refusedBare("element", STATE, x -> x.element(b));
            refusedBare("basis", STATE, x -> x.basis(b, b, b, b));
            refusedBare("over", STATE, x -> x.over(b, b, b));
            refusedBare("plus", STATE, x -> x.plus(b, b, b));
            refusedBare("times", STATE, x -> x.times(b, b, b));
            refusedBare("at", STATE, x -> x.at(b, b, b));
            refusedBare("as", STATE, x -> x.as(b, b));
            refusedBare("place", STATE, x -> x.place(b));
            refusedBare("whole", STATE, x -> x.whole(b));
            refusedBare("equation", STATE, x -> x.equation(b, b, b));
            refusedBare("lies", STATE, x -> x.lies(b));
            refusedBare("note", STATE, x -> x.note(b));
            refusedBare("find", STATE, x -> x.find(b));
            refusedBare("copyOut", STATE, x -> x.copyOut(b, b));
            refusedBare("loads", STATE, x -> x.loads(b, b));
            refusedBare("spills", STATE, x -> x.spills(b, b));
        }
        says(0, "STATE comes ahead of -13 too");
        refusedBare("at of a row", STATE, x -> x.at(3, 0, 0));
        refusedBare("plus of rows", STATE, x -> x.plus(3, 4, 5));
        refusedBare("loads of a row", STATE, x -> x.loads(3, 5));
        refusedBare("spills to a row", STATE, x -> x.spills(3, 4));
    }

    private static void fields() {
        says(2, "p 2, 3, 5 or 7; BAD: any other");
        for (int p = -20; p <= 20; p++) {
            int q = p;
            if (p != 2 && p != 3 && p != 5 && p != 7) {
                refused("field(" + p + ")", BAD, x -> x.field(q));
            }
        }
        for (int p : new int[] {LEAST, LEAST + 3, MOST, 1 << 16, 65538, 256 + 7}) {
            refused("field(" + p + ")", BAD, x -> x.field(p));
            refusedBare("field(" + p + ")", BAD, x -> x.field(p));
        }
        says(2, "how many it had");
        CurveRingsClosed x = new CurveRingsClosed();
        int had = 3;
        for (int p : new int[] {3, 2, 2, 7, 5, 5, 3, 7, 2}) {
            due("field(" + p + ")", x.field(p), had);
            due("count(0)", x.count(0), p);
            had = p;
        }
        for (int p : FIELDS) {
            says(2, "There is no CURVE then; ELEMENTS and THE BOOK go, ROWS, THE TAPE, THE IMAGE stay");
            x = standard();
            due("field(" + p + ")", x.field(p), 5);
            CurveRingsClosed twin = bare();
            twin.field(p);
            same("field(" + p + ")", holds(x), holds(twin));
            says(2, "sums, products, differences are taken by p");
            x = fresh(p, "y^2+y+x");
            lay(x, 0, "999*x+6*6*y+1-2");
            due("999", x.at(0, 0, 1), 999 % p);
            due("36", x.at(0, 1, 0), 36 % p);
            due("-1", x.at(0, 0, 0), p - 1);
        }
    }

    private static void inverses() {
        CurveRingsClosed x = new CurveRingsClosed();
        int[] far = {LEAST, LEAST + 1, LEAST + 2, MOST, MOST - 1, MOST - 2, MOST - 6, 1 << 16, -(1 << 16)};
        for (int p : FIELDS) {
            says(3, "any int, taken by p, what remains 0 .. p - 1; -15: that is 0");
            x.field(p);
            for (int v = -30; v < 30 + far.length; v++) {
                int number = v < 30 ? v : far[v - 30];
                long rest = ((long) number % p + p) % p;
                int got = x.inverse(number);
                boolean fits = rest == 0 ? got == NO_NUMBER : got > 0 && got < p && rest * got % p == 1;
                due("inverse(" + number + ") by " + p + " is " + got + ", it fits", fits ? 1 : 0, 1);
            }
        }
        refused("inverse(0)", NO_NUMBER, y -> y.inverse(0));
        refusedBare("inverse(-5)", NO_NUMBER, y -> y.inverse(-5));
    }

    private static CurveRingsClosed taped(int size) {
        CurveRingsClosed x = standard();
        x.wipe();
        feed(x, "y".repeat(size));
        return x;
    }

    private static void feeds() {
        says(4, "n bytes (1 .. 4); BAD: n");
        for (int n : new int[] {0, 5, -1, 6, LEAST, MOST, 256 + 1}) {
            refused("feed(" + n + ")", BAD, x -> x.feed(n, 0x79797979));
            refusedBare("feed(" + n + ")", BAD, x -> x.feed(n, 0x79797979));
            refused("BAD ahead of FULL", BAD, () -> taped(100), x -> x.feed(n, 0));
        }
        says(4, "FULL: they have no room (100 bytes at most); how many it has");
        for (int size = 95; size <= 100; size++) {
            for (int n = 1; n <= 4; n++) {
                int had = size;
                int more = n;
                if (size + n > 100) {
                    refused("feed(" + n + ") behind " + size, FULL, () -> taped(had), x -> x.feed(more, 0x79797979));
                } else {
                    CurveRingsClosed x = taped(size);
                    due("feed(" + n + ") behind " + size, x.feed(n, 0x79797979), size + n);
                    due("count(3)", x.count(3), size + n);
                }
            }
        }
        CurveRingsClosed x = taped(99);
        due("feed(2)", x.feed(2, 0), FULL);
        due("feed(1) has room yet", x.feed(1, 0), 100);
        says(4, "n bytes of word, its lowest first, behind THE TAPE; the others are not used");
        int word = 'x' | '^' << 8 | '2' << 16 | '(' << 24;
        for (int n = 1; n <= 4; n++) {
            x = fresh(5, "y^2-x");
            feed(x, "y+3*");
            due("feed(" + n + ")", x.feed(n, word), 4 + n);
            due("its text", x.element(0), new int[] {1, -106, 1, -107}[n - 1]);
            if (n % 2 == 1) {
                due("3 x or 3 x^2", x.at(0, 0, (n + 1) / 2), 3);
            }
        }
        says(4, "a byte is 0 .. 255, also in a word below 0");
        for (int n = 1; n <= 4; n++) {
            x = fresh(5, "y^2-x");
            int bytes = 0x20202020 & ~(255 << 8 * (n - 1)) | 0xf9 << 8 * (n - 1);
            due("feed(4)", x.feed(4, bytes), 4);
            due("byte " + n + " begins no token", x.element(0), -100 - (n - 1));
        }
    }

    private static void wipes() {
        for (int size : new int[] {0, 1, 4, 99, 100}) {
            says(5, "THE TAPE is empty: how many bytes it had");
            CurveRingsClosed x = taped(size);
            due("wipe()", x.wipe(), size);
            due("wipe()", x.wipe(), 0);
            due("there is room again", x.feed(4, 0x79797979), 4);
            due("only the new ones count", x.curve(), -101);
        }
        leaves("wipe()", 3, x -> x.wipe(), x -> x.curve());
    }

    /** What a text answers as an element by 5 numbers, as told in the plainest case: 1, or FAULT and HIGH. */
    private static int read(String text) {
        return lay(fresh(5, "y^4+y+x"), 0, text);
    }

    private static void tokens() {
        says(6, "FAULT: also of a byte that begins none");
        for (int b = 0; b < 256; b++) {
            String one = String.valueOf((char) b);
            boolean digit = b >= '0' && b <= '9';
            boolean atom = digit || b == 'x' || b == 'y';
            boolean early = b == ' ' || b == '-' || b == '(';
            due("byte " + b, read(one), atom ? 1 : early ? -101 : -100);
            boolean sign = b == '+' || b == '-' || b == '*' || b == '^';
            due("x and byte " + b, read("x" + one), b == ' ' ? 1 : sign ? -102 : -101);
            due("1 and byte " + b, read("1" + one), b == ' ' || digit ? 1 : sign ? -102 : -101);
            due("(x and byte " + b, read("(x" + one), b == ')' ? 1 : sign || b == ' ' ? -103 : -102);
            due("x and byte " + b + " and )", read("(x" + one + ")"), b == ' ' ? 1 : b == ')' || sign ? -103 : -102);
            boolean fine = atom || early;
            due("x* and byte " + b, read("x*" + one), atom ? 1 : b == '(' || b == ' ' ? -103 : -102);
            due("x^ and byte " + b, read("x^" + one), b >= '0' && b <= '6' ? 1 : b == ' ' ? -103 : -102);
            due("(x)+ and byte " + b, read("(x)+" + one), fine && b != '-' ? (atom ? 1 : -105) : -104);
        }
        says(6, "TOKENS, each as long as can be: NUMBERS (digits, 3 at most); FAULT: a NUMBER of more digits");
        for (String number : new String[] {"0", "00", "000", "7", "10", "07", "007", "100", "255", "256", "512", "999"}) {
            CurveRingsClosed x = fresh(7, "y^2-x");
            due("element " + number, lay(x, 0, number), 1);
            due("its number", x.at(0, 0, 0), Integer.parseInt(number) % 7);
        }
        for (String number : new String[] {"0000", "0001", "1000", "9999", "12345", "1234567890123", "4294967297"}) {
            due(number, read(number), -100);
            due("x+ " + number, read("x+ " + number), -103);
            due("x^" + number, read("x^" + number), -102);
            due("x " + number, read("x " + number), -102);
        }
        due("100 digits", read("0".repeat(100)), -100);
        due("two NUMBERS are no NUMBER", read("12 34"), -103);
        due("two NUMBERS are no NUMBER", read("999 9"), -104);
        says(6, "blanks (32) may stand between");
        CurveRingsClosed x = fresh(7, "y^2-x");
        due("blanks everywhere", lay(x, 0, "  - ( x  +12 ) ^  2 *  y -  3  "), 1);
        due("-2*12 x y", x.at(0, 1, 1), 7 * 4 - 24);
        due("-x^2 y", x.at(0, 1, 2), 6);
        due("-3", x.at(0, 0, 0), 4);
        due("a blank in a NUMBER parts it", read("x^1 2"), -104);
    }

    private static void fault(String text, int place) {
        CurveRingsClosed x = standard();
        CurveRingsClosed twin = standard();
        x.wipe();
        twin.wipe();
        due("curve " + text, tell(x, text), -100 - place);
        due("element " + text, lay(x, 0, text), -100 - place);
        same("after " + text, holds(x), holds(twin));
    }

    private static void grammar() {
        says(6, "SUM: perhaps - , then TERM { + TERM or - TERM }");
        fault("-", 1);
        fault("--x", 1);
        fault("+x", 0);
        fault("x+", 2);
        fault("x+-y", 2);
        fault("x--y", 2);
        fault("x++y", 2);
        fault("(-x)-(--x)", 7);
        fault("(+x)", 1);
        due("- at each beginning", read("-x+(-y)-(-(-1))"), 1);
        says(6, "TERM: POWER { * POWER }");
        fault("xy", 1);
        fault("x y", 2);
        fault("2x", 1);
        fault("x 2", 2);
        fault("x(y)", 1);
        fault("(x)(y)", 3);
        fault("(x)y", 3);
        fault("x*", 2);
        fault("*x", 0);
        fault("x**y", 2);
        fault("x*-y", 2);
        fault("x*+y", 2);
        says(6, "POWER: ATOM, perhaps ^ and a NUMBER (0 .. 6)");
        fault("x^", 2);
        fault("^2", 0);
        fault("x^y", 2);
        fault("x^x", 2);
        fault("x^(2)", 2);
        fault("x^-1", 2);
        fault("x^2^2", 3);
        fault("x^2x", 3);
        fault("x^2 3", 4);
        fault("x^^2", 2);
        says(6, "ATOM: x, y, a NUMBER, ( SUM )");
        fault("()", 1);
        fault("(x", 2);
        fault("(x+)", 3);
        fault(")", 0);
        fault("x)", 1);
        fault("(x+y))", 5);
        fault("X", 0);
        fault("x\ty", 1);
        fault("x+z", 2);
        due("a POWER of each ATOM", read("x^2*y^1*3^6*(x+y)^3"), 1);
    }

    private static void faults() {
        says(6, "FAULT: one above 6 behind ^");
        for (int e = 0; e <= 999; e++) {
            String bare = String.valueOf(e);
            due("x^" + e, read("x^" + e), e <= 6 ? 1 : -102);
            if (e < 100) {
                due("x^0" + e, read("x^0" + bare), e <= 6 ? 1 : -102);
            }
            if (e < 10) {
                due("1+x^ 00" + e, read("1+x^ 00" + bare), e <= 6 ? 1 : -105);
            }
        }
        fault("x^7", 2);
        fault("x^6+x^7", 6);
        fault("y+1^999", 4);
        says(6, "FAULT: a ( while 4 are open");
        due("4 open", read("((((x))))"), 1);
        due("4 open, then closed, then open", read("((((x))+((y))))*((((1))))"), 1);
        due("5, not at once", read("(1)*(1)*(1)*(1)*(1)"), 1);
        fault("(((((x)))))", 4);
        fault("( ( ( ( (", 8);
        due("4 open again", read("((((1)+(2))))"), 1);
        fault("((((1+(2)))))", 6);
        fault("((((1*(", 6);
        fault("((((x^(", 6);
        fault("((((x))))+(((((x)))))", 14);
        says(6, "FAULT: of the first TOKEN that can't stand there");
        fault("x x 1234 & )", 2);
        fault("x+& x x", 2);
        fault("x^7 x x", 2);
        fault("1234 )", 0);
        fault("x+(y 5))", 5);
        fault("x * ) *", 4);
        fault("x+\u00e9", 2);
        fault("x+\u0000", 2);
        fault("12 345 6", 3);
    }

    private static void ends() {
        says(6, "FAULT: the text's size, if it ends too early");
        fault("", 0);
        fault(" ", 1);
        fault("   ", 3);
        fault("y^2- ", 5);
        fault("x*", 2);
        fault("(", 1);
        fault("(((( ", 5);
        fault("(x^2", 4);
        fault("x^ ", 3);
        says(6, "THE TAPE: 100 bytes at most");
        fault(" ".repeat(100), 100);
        fault(" ".repeat(99) + "+", 99);
        fault(" ".repeat(99) + "-", 100);
        fault("x" + " ".repeat(98) + "*", 100);
        fault("x" + " ".repeat(98) + "x", 99);
        fault("(".repeat(100), 4);
        fault("x+".repeat(50), 100);
        fault("1*".repeat(49) + "1)", 99);
        CurveRingsClosed x = fresh(7, "y^2-x");
        due("50 differences", lay(x, 0, "-x".repeat(50)), 1);
        due("-50 x", x.at(0, 0, 1), 6);
        due("50 factors", lay(x, 0, "3*".repeat(49) + "3 "), 1);
        due("3^50", x.at(0, 0, 0), 2);
        due("the last byte counts", lay(x, 0, " ".repeat(99) + "5"), 1);
        due("5", x.at(0, 0, 0), 5);
        due("a curve of 100 bytes", tell(x, "y^2" + " ".repeat(95) + "-1"), 2);
        due("-1", x.front(0, 0), 6);
    }

    private static void high(String text, int place) {
        CurveRingsClosed x = standard();
        CurveRingsClosed twin = standard();
        x.wipe();
        twin.wipe();
        due("curve " + text, tell(x, text), -300 - place);
        due("element " + text, lay(x, 0, text), -300 - place);
        same("after " + text, holds(x), holds(twin));
    }

    private static void highs() {
        says(6, "HIGH: the first ^ or * by which something of a DEGREE above 6 comes");
        for (String text : new String[] {"x^6", "x^3*y^3", "(x*y)^3", "(x^2+y)^3", "x*y^5", "x^5*y", "y^6", "(x^3)^2",
            "(x^6+y^6)*5*4", "x^6+x^6", "(x+y)^6"}) {
            due(text + " is of 6", read(text), 1);
        }
        high("x^6*x", 3);
        high("x*x^6", 1);
        high("x^6*y", 3);
        high("y*y^6", 1);
        high("x^4*y^3", 3);
        high("(x*y)^4", 5);
        high("(x^2)^4", 5);
        high("(x^4)^2", 5);
        high("(x^6)^6", 5);
        high("(x^3+y)^3", 7);
        high("(1+x^2)^4", 7);
        high("(x+y)*(x+1)^6", 5);
        high("x^3*x^3*x*x*x", 7);
        high("2*x^6*x", 5);
        high("x^6*x+x^6*y", 3);
        high("x+x^6*y", 5);
        high("1-(x-(x^4*y^4))", 9);
        high("x^6*x-x^6*x", 3);
        high("x^6*x*0", 3);
        high("x^6" + " ".repeat(95) + "*x", 98);
        high("(x^2)" + " ".repeat(93) + "^4", 98);
        says(6, "DEGREE is 0, if there is no number that isn't 0");
        for (String text : new String[] {"0*x^6*x^6", "(x-x)*x^6*x^6", "5*x^6*x^6", "(5*x^6)^6", "(x-x)^6*x^6", "x^6*(x-x)",
            "(2*x+3*x)*x^6"}) {
            due(text + " is 0", read(text), 1);
        }
        says(6, "worked out from the left, each part of a part ahead of it");
        high("x^4*x^4*(x^5*x^5)", 3);
        high("x*(x*x^6)", 4);
        high("x^3*(x^4*(x^5*x))*x", 8);
        high("x^4*(x^4*x^4)*x", 8);
        high("x^4*x^4+(x^5)^5", 3);
        high("(x^5)^5+x^4*x^4", 5);
        high("x^4*(x^4)^2", 9);
        high("x^4*x^4*(x^4)^2", 3);
        high("(x*x^6)^0", 2);
        high("(x*x^6)^2", 2);
        says(6, "a TEXT without FAULT is worked out: FAULT comes ahead of HIGH");
        fault("x^6*x*", 6);
        fault("x^6*x)", 5);
        fault("x^6*x^7", 6);
        fault("(x^6*x", 6);
        fault("x^6*x+1234", 6);
    }

    /** What an older text left behind, THE TAPE apart, does not count. */
    private static void oneByOne() {
        says(6, "A TEXT is read from THE TAPE: each for itself");
        String[] texts = {"x^6*x", "x*(", "2*x+y", "(((x", "y^6*y", "1234", "3", "(x*x^6)^0", "x^2+y^2", "5*x"};
        int[] answers = {-303, -103, 1, -104, -303, -100, 1, -302, 1, 1};
        CurveRingsClosed x = fresh(5, "y^4+y+x");
        for (int k = 0; k < 3 * texts.length; k++) {
            int at = k * 7 % texts.length;
            due(texts[at], lay(x, 0, texts[at]), answers[at]);
        }
        due("a curve behind HIGH", tell(x, "x^6*x") * 10 + tell(x, "y^2-x"), -3028);
        due("a curve behind FAULT", tell(x, "x^") * 10 + tell(x, "y^3-x"), -1017);
        due("a curve behind NOT", tell(x, "x") * 10 + tell(x, "y^4-x"), -26);
    }

    private static void worth(String text, int i, int j, int number) {
        CurveRingsClosed x = fresh(5, "y^4+y+x");
        due(text, lay(x, 0, text), 1);
        due("in front of x^" + i + " y^" + j + " in " + text, x.at(0, j, i), number);
    }

    private static void workedOut() {
        says(6, "anything ^ 0 is 1");
        worth("x^0", 0, 0, 1);
        worth("x^0", 1, 0, 0);
        worth("0^0", 0, 0, 1);
        worth("(x-x)^0", 0, 0, 1);
        worth("5^00", 0, 0, 1);
        worth("(x^6+y)^000*x^6", 6, 0, 1);
        says(6, "POWER: ^ 1 .. 6");
        worth("2^1", 0, 0, 2);
        worth("0^1", 0, 0, 0);
        worth("3^6", 0, 0, 4);
        worth("2^003", 0, 0, 3);
        worth("x^006", 6, 0, 1);
        worth("(x+1)^6", 5, 0, 1);
        worth("(x+1)^6", 2, 0, 0);
        says(6, "worked out from the left");
        worth("x-y-1", 0, 0, 4);
        worth("x-(y-1)", 0, 0, 1);
        worth("1-2-3", 0, 0, 1);
        worth("1-2+3", 0, 0, 2);
        worth("2*3*4", 0, 0, 4);
        worth("-x^2", 2, 0, 4);
        worth("(-x)^2", 2, 0, 1);
        worth("-2*3", 0, 0, 4);
        worth("-1+2", 0, 0, 1);
        worth("2*x^3", 3, 0, 2);
        worth("(2*x)^3", 3, 0, 3);
        worth("1+2*3", 0, 0, 2);
        worth("(1+2)*3", 0, 0, 4);
        worth("-(x+y)*(x-y)", 0, 2, 1);
        worth("-(x+y)*(x-y)", 2, 0, 4);
        worth("((((x+2))))^2", 1, 0, 4);
        says(23, "y^n and higher by f");
        worth("y^4", 0, 1, 4);
        worth("y^4", 1, 0, 4);
        worth("y^6", 0, 3, 4);
        worth("y^6", 1, 2, 4);
        worth("x^2*y^4+y^5", 3, 0, 4);
        worth("x^2*y^4+y^5", 0, 2, 4);
    }

    private static void notSuch() {
        says(6, "NOT: the greatest j is 2, 3 or 4, y^n alone with 1 in front");
        String[] none = {"0", "1", "x", "x^6", "y", "y-x", "y*x", "y^5", "y^6", "y^5+y^2", "2*y^2-x", "4*y^3-x", "0*y^2+x",
            "x*y^2", "x*y^2-x", "y^2+x*y^2-x", "y^2+x^2*y^2-x", "y^2+x^3*y^2-x", "y^2+x^4*y^2-x", "y^3+x*y^3-x",
            "y^3+x^2*y^3-x", "y^3+x^3*y^3-x", "y^4+x*y^4-x", "y^4+x^2*y^4-x", "y^4-y^4+y", "5*y^2+y-x", "x^2*y^4+y^3",
            "2*y^2", "x*(y-x)^2"};
        for (String text : none) {
            leaves("curve " + text, NOT, x -> {
                x.wipe();
                return tell(x, text);
            }, x -> x.wipe());
        }
        says(6, "numbers are taken by p first");
        CurveRingsClosed x = fresh(5, null);
        due("6 y^2", tell(x, "6*y^2-x"), 2);
        due("5 y^4", tell(x, "5*y^4+y^3-x"), 3);
        due("5 x y^4", tell(x, "y^4+5*x*y^4-x"), 4);
        due("n 2", tell(x, "y^2-1"), 2);
        due("n 3", tell(x, "y^3-1"), 3);
        due("n 4", tell(x, "y^4-1"), 4);
        due("degree", x.count(2), 4);
        due("y^n with x^(6 - n) beside it", tell(x, "y^4+x^2*y^3+x^5*y-x^6-1"), 4);
        due("degree", x.count(2), 6);
    }

    private static void flat() {
        says(6, "-15: DISC is 0");
        String[] flat = {"y^2", "y^3", "y^4", "y^3-y^2", "(y-x)^2", "(y-x^3)^2", "y*(y-x)^2", "(y^2-x)^2", "(y-1)^2*(y^2-x)",
            "y^2-2*x*y+x^2"};
        for (String text : flat) {
            leaves("curve " + text, NO_NUMBER, x -> {
                x.wipe();
                return tell(x, text);
            }, x -> x.wipe());
        }
        String[][] slopes = {{"2", "y^2-x"}, {"2", "y^2-x^3-1"}, {"2", "y^4+y^2+x"}, {"3", "y^3-x"}, {"3", "y^3-x^4-x"},
            {"2", "y^4-x"}};
        for (String[] slope : slopes) {
            CurveRingsClosed x = fresh(Integer.parseInt(slope[0]), null);
            due(slope[1] + " by " + slope[0], tell(x, slope[1]), NO_NUMBER);
            due("no curve", x.count(1), 0);
            due("no curve", x.last(0), STATE);
        }
        says(6, "NOT comes ahead of -15");
        CurveRingsClosed x = fresh(5, null);
        due("2 y^2", tell(x, "2*y^2"), NOT);
    }

    private static void refusedCurves() {
        says(6, "else that stays as it was (also SHELVES, THE BOOK); THE TAPE is empty then");
        String[][] texts = {{"y^2+", "-104"}, {"y^2-x^6*x", "-307"}, {"x", "-3"}, {"y^2", "-15"}};
        for (String[] text : texts) {
            CurveRingsClosed x = bare();
            CurveRingsClosed twin = bare();
            x.wipe();
            twin.wipe();
            due("curve " + text[0], tell(x, text[0]), Integer.parseInt(text[1]));
            due("count(3)", x.count(3), 0);
            same("curve " + text[0] + " where there is none", holds(x), holds(twin));
        }
    }

    private static void enteredCurves() {
        says(6, "THE CURVE becomes another: SHELVES that hold ELEMENTS hold nothing, THE BOOK is empty");
        Call gone = x -> {
            for (int s = 0; s < 3; s++) {
                x.clear(s);
            }
            return x.wipe();
        };
        for (String text : new String[] {"y^3-x^4", "y^2-x", "y^4-x"}) {
            CurveRingsClosed x = standard();
            x.wipe();
            due("curve " + text, tell(x, text), text.charAt(2) - '0');
            due("count(3)", x.count(3), 0);
            CurveRingsClosed twin = bare();
            twin.wipe();
            tell(twin, text);
            same("curve " + text, holds(x), holds(twin));
        }
        CurveRingsClosed x = standard();
        gone.on(x);
        due("the book is there", x.count(6), 2);
        due("the same anew", tell(x, "y^3-x^4"), 3);
        due("the book is empty", x.count(6), 0);
        due("the rings are there", x.last(0), 2);
    }

    /** The number at place i + 7 j, in front of x^i y^j, as draw's words tell it, worked out in longs. */
    private static int drawn(int seed, int n, int p, int place) {
        long z = seed;
        for (int j = 0; j < n; j++) {
            for (int i = 0; i <= n + 1 - j; i++) {
                z = (z * 1103515245L + 12345L) & 0xffffffffL;
                if (i + 7 * j == place) {
                    return (int) ((z >> 9) % p);
                }
            }
        }
        return place == 7 * n ? 1 : 0;
    }

    private static void draws() {
        says(7, "n 2 .. 4; BAD");
        for (int n : new int[] {1, 5, 0, -1, LEAST, MOST, 6}) {
            refused("draw(1, " + n + ")", BAD, x -> x.draw(1, n));
            refusedBare("draw(1, " + n + ")", BAD, x -> x.draw(1, n));
        }
        says(7, "z an int, seed at first; what remains of z >>> 9 by p, for j 0 .. n - 1, for i 0 .. n + 1 - j");
        int[] seeds = {0, 1, -1, LEAST, MOST, 12345, -1103515245, 1 << 9, 77};
        int entered = 0;
        for (int p : FIELDS) {
            for (int n = 2; n <= 4; n++) {
                for (int seed : seeds) {
                    CurveRingsClosed x = fresh(p, null);
                    int got = x.draw(seed, n);
                    entered += got == n ? 1 : 0;
                    due("draw answers n or -15", got == n || got == NO_NUMBER ? 1 : 0, 1);
                    for (int e = 0; e < 49 && got == n; e++) {
                        String call = "draw(" + seed + ", " + n + ") by " + p + ", x^" + e % 7 + " y^" + e / 7;
                        due(call, x.front(e % 7, e / 7), drawn(seed, n, p, e));
                    }
                }
            }
        }
        due("most of them have a curve", entered > 80 ? 1 : 0, 1);
    }

    private static void drawnOverOld() {
        says(7, "-15: DISC is 0 (all stays)");
        CurveRingsClosed x = fresh(2, "y^2+y+x");
        int flat = 0;
        for (int number = 0; number < 180; number++) {
            int seed = number / 3;
            int n = 2 + number % 3;
            if (fresh(2, null).draw(seed, n) == NO_NUMBER) {
                flat++;
                refused("draw(" + seed + ", " + n + ")", NO_NUMBER, () -> {
                    CurveRingsClosed y = fresh(2, "y^2+y+x");
                    lay(y, 1, "y+x");
                    y.note(1);
                    y.row(2, 1, 3);
                    feed(y, "x");
                    return y;
                }, y -> y.draw(seed, n));
            }
        }
        due("some have none", flat > 3 ? 1 : 0, 1);
        says(7, "THE CURVE is y^n and the numbers drawn: nothing of an older text, curve or field is left");
        feed(x, "x^6+x^5*y+x^4*y^2+x^3*y^3");
        x.element(0);
        x.draw(0, 2);
        x.field(7);
        due("draw(9, 3)", x.draw(9, 3), 3);
        for (int e = 0; e < 49; e++) {
            due("x^" + e % 7 + " y^" + e / 7, x.front(e % 7, e / 7), drawn(9, 3, 7, e));
        }
        says(7, "SHELVES that hold ELEMENTS hold nothing, THE BOOK is empty; ROWS, THE TAPE, THE IMAGE stay");
        CurveRingsClosed y = standard();
        due("draw(3, 3)", y.draw(3, 3), 3);
        CurveRingsClosed twin = bare();
        due("draw(3, 3)", twin.draw(3, 3), 3);
        same("draw(3, 3)", holds(y), holds(twin));
    }
}
