import java.util.ArrayDeque;
import java.util.ArrayList;
import java.util.Deque;
import java.util.List;

/** Reads a text in three rounds: tokens, what may stand where, then working out with two stacks; for Model alone. */
final class TextReader {
    private record Token(String text, int place, boolean wrong) {
        boolean isNumber() {
            return Character.isDigit(text.charAt(0));
        }
    }

    /** Below 0: the answer of a refused reading; else result is set. */
    final int answer;
    final int[][] result;
    private final int p;
    private final Deque<int[][]> values = new ArrayDeque<>();
    private final Deque<Token> signs = new ArrayDeque<>();
    private int high = -1;

    TextReader(String text, int p) {
        this.p = p;
        List<Token> tokens = split(text);
        int fault = fault(tokens, text.length());
        if (fault >= 0) {
            answer = -100 - fault;
            result = null;
            return;
        }
        workOut(tokens);
        answer = high >= 0 ? -300 - high : 0;
        result = values.peek();
    }

    private static List<Token> split(String text) {
        List<Token> tokens = new ArrayList<>();
        for (int i = 0; i < text.length(); ) {
            int j = i + 1;
            char b = text.charAt(i);
            if (b >= '0' && b <= '9') {
                while (j < text.length() && text.charAt(j) >= '0' && text.charAt(j) <= '9') {
                    j++;
                }
                tokens.add(new Token(text.substring(i, j), i, j - i > 3));
            } else if (b != ' ') {
                tokens.add(new Token(text.substring(i, j), i, "xy+-*^()".indexOf(b) < 0));
            }
            i = j;
        }
        return tokens;
    }

    private static int fault(List<Token> tokens, int size) {
        String may = "start";
        int open = 0;
        for (Token token : tokens) {
            if (token.wrong) {
                return token.place;
            }
            String t = token.text;
            boolean number = t.charAt(0) >= '0' && t.charAt(0) <= '9';
            boolean atom = number || t.equals("x") || t.equals("y");
            if (may.equals("exponent")) {
                if (!number || Integer.parseInt(t) > 6) {
                    return token.place;
                }
                may = "sign";
            } else if (may.equals("start") || may.equals("atom")) {
                if (t.equals("-") && may.equals("start")) {
                    may = "atom";
                } else if (t.equals("(") && open < 4) {
                    open++;
                    may = "start";
                } else if (atom) {
                    may = "power";
                } else {
                    return token.place;
                }
            } else {
                if (t.equals("^") && may.equals("power")) {
                    may = "exponent";
                } else if (t.equals("*") || t.equals("+") || t.equals("-")) {
                    may = "atom";
                } else if (t.equals(")") && open > 0) {
                    open--;
                    may = "power";
                } else {
                    return token.place;
                }
            }
        }
        return (may.equals("power") || may.equals("sign")) && open == 0 ? -1 : size;
    }

    private static int rank(String sign) {
        return switch (sign) {
            case "^" -> 3;
            case "*" -> 2;
            case "+", "-" -> 1;
            default -> 0;
        };
    }

    private void workOut(List<Token> tokens) {
        boolean start = true;
        for (Token token : tokens) {
            String t = token.text;
            if (t.equals("(")) {
                signs.push(token);
                start = true;
                continue;
            }
            if (t.equals(")")) {
                apply(1);
                signs.pop();
            } else if (rank(t) > 0) {
                if (start) {
                    values.push(new int[7][7]);
                }
                apply(rank(t));
                signs.push(token);
            } else {
                int[][] v = new int[7][7];
                if (t.equals("x")) {
                    v[1][0] = 1;
                } else if (t.equals("y")) {
                    v[0][1] = 1;
                } else {
                    v[0][0] = Integer.parseInt(t);
                }
                values.push(v);
            }
            start = false;
        }
        apply(1);
    }

    private void apply(int least) {
        while (!signs.isEmpty() && rank(signs.peek().text) >= least) {
            Token sign = signs.pop();
            int[][] b = values.pop();
            int[][] a = values.pop();
            values.push(switch (sign.text) {
                case "^" -> power(a, b[0][0], sign.place);
                case "*" -> cut(product(reduced(a), reduced(b)), sign.place);
                case "+" -> sum(a, b, 1);
                default -> sum(a, b, -1);
            });
        }
        if (values.size() == 1) {
            values.push(reduced(values.pop()));
        }
    }

    private int[][] reduced(int[][] a) {
        return sum(new int[7][7], a, 1);
    }

    private int[][] sum(int[][] a, int[][] b, int factor) {
        int[][] c = new int[7][7];
        for (int i = 0; i < 7; i++) {
            for (int j = 0; j < 7; j++) {
                c[i][j] = Math.floorMod(a[i][j] + factor * b[i][j], p);
            }
        }
        return c;
    }

    private int[][] product(int[][] a, int[][] b) {
        int[][] c = new int[a.length + b.length - 1][a.length + b.length - 1];
        for (int i = 0; i < a.length; i++) {
            for (int j = 0; j < a.length; j++) {
                for (int k = 0; k < b.length; k++) {
                    for (int l = 0; a[i][j] != 0 && l < b.length; l++) {
                        c[i + k][j + l] = (c[i + k][j + l] + a[i][j] * b[k][l]) % p;
                    }
                }
            }
        }
        return c;
    }

    private int[][] power(int[][] a, int k, int place) {
        int[][] c = new int[1][1];
        c[0][0] = 1;
        for (int i = 0; i < k; i++) {
            c = product(c, reduced(a));
        }
        return cut(c, place);
    }

    static int degree(int[][] a) {
        int degree = 0;
        for (int i = 0; i < a.length; i++) {
            for (int j = 0; j < a[i].length; j++) {
                degree = a[i][j] != 0 ? Math.max(degree, i + j) : degree;
            }
        }
        return degree;
    }

    private int[][] cut(int[][] a, int place) {
        if (degree(a) > 6 && high < 0) {
            high = place;
        }
        int[][] c = new int[7][7];
        for (int i = 0; i < Math.min(7, a.length); i++) {
            for (int j = 0; j < Math.min(7, a.length); j++) {
                c[i][j] = a[i][j];
            }
        }
        return c;
    }
}
