import java.util.ArrayDeque;
import java.util.ArrayList;
import java.util.Deque;
import java.util.List;
import java.util.regex.Matcher;
import java.util.regex.Pattern;

/** The texts of the slow model: orders by an automaton, formulas by operator precedence. */
final class SlowTexts {
    /** A formula as numbers ("7") and operators ("!", "&", "|") in postfix order. */
    record Formula(int fault, int set, List<String> postfix) {
    }

    private SlowTexts() {
    }

    // ---- orders

    private enum Want { FIRST, TERM, LETTER, AFTER, RELATION, RIGHT, NUMBER, SECOND, THIRD, SEMICOLON }

    /** Goes through the text byte by byte; the fault, or -1. */
    static int readOrders(String text, List<int[]> into) {
        Want want = Want.FIRST;
        int[] row = new int[6];
        String seen = "";
        int sign = 1;
        int factor = 1;
        int first = 0;
        int right = 0;
        int side = 1;
        for (int p = 0; p <= text.length(); p++) {
            int c = p < text.length() ? text.charAt(p) : -1;
            if (want == Want.SECOND || want == Want.THIRD) {
                if (Character.isDigit(c)) {
                    if (want == Want.THIRD) {
                        return p;
                    }
                    right = right * 10 + c - '0';
                    want = Want.THIRD;
                    continue;
                }
                if (right > 50) {
                    return first;
                }
                row[4] = side * right;
                want = Want.SEMICOLON;
            }
            if (c == ' ') {
                continue;
            }
            if (c == -1) {
                return want == Want.FIRST && !into.isEmpty() ? -1 : text.length();
            }
            switch (want) {
                case FIRST -> {
                    row = new int[6];
                    seen = "";
                    sign = c == '-' ? -1 : 1;
                    factor = 1;
                    if (c == '0') {
                        want = Want.RELATION;
                    } else if (c == '-') {
                        want = Want.TERM;
                    } else if ("12345".indexOf(c) >= 0) {
                        factor = c - '0';
                        want = Want.LETTER;
                    } else if ("xyz".indexOf(c) >= 0) {
                        row[c - 'x'] = 1;
                        seen += (char) c;
                        want = Want.AFTER;
                    } else {
                        return p;
                    }
                }
                case TERM, LETTER -> {
                    if (want == Want.TERM && "12345".indexOf(c) >= 0) {
                        factor = c - '0';
                        want = Want.LETTER;
                    } else if ("xyz".indexOf(c) >= 0 && seen.indexOf(c) < 0) {
                        row[c - 'x'] = sign * factor;
                        seen += (char) c;
                        want = Want.AFTER;
                    } else {
                        return p;
                    }
                }
                case AFTER, RELATION -> {
                    if (want == Want.AFTER && (c == '+' || c == '-')) {
                        sign = c == '+' ? 1 : -1;
                        factor = 1;
                        want = Want.TERM;
                    } else if (c == '=') {
                        row[3] = 2;
                        want = Want.RIGHT;
                    } else if (c == '<') {
                        boolean most = text.startsWith("<=", p);
                        row[3] = most ? 1 : 0;
                        p += most ? 1 : 0;
                        want = Want.RIGHT;
                    } else {
                        return p;
                    }
                }
                case RIGHT, NUMBER -> {
                    if (want == Want.RIGHT) {
                        side = c == '-' ? -1 : 1;
                    }
                    if (want == Want.RIGHT && c == '-') {
                        want = Want.NUMBER;
                    } else if (Character.isDigit(c)) {
                        first = p;
                        right = c - '0';
                        want = Want.SECOND;
                    } else {
                        return p;
                    }
                }
                default -> {
                    if (c != ';') {
                        return p;
                    }
                    into.add(row);
                    want = Want.FIRST;
                }
            }
        }
        throw new IllegalStateException(text);
    }

    // ---- formulas

    private static final Pattern TOKEN = Pattern.compile(" *([0-9]+|[^ ])", Pattern.DOTALL);

    static Formula readFormula(String text, int rows) {
        Matcher tokens = TOKEN.matcher(text);
        Deque<String> waiting = new ArrayDeque<>();
        List<String> postfix = new ArrayList<>();
        int set = 0;
        int open = 0;
        boolean operand = true;
        while (tokens.find()) {
            String token = tokens.group(1);
            int p = tokens.start(1);
            if (Character.isDigit(token.charAt(0))) {
                if (!operand) {
                    return new Formula(p, 0, postfix);
                }
                if (token.length() > 2) {
                    return new Formula(p + 2, 0, postfix);
                }
                int i = Integer.parseInt(token);
                if (i >= rows) {
                    return new Formula(p, 0, postfix);
                }
                set |= 1 << i;
                postfix.add(token);
                unload(waiting, postfix, "!");
                operand = false;
            } else if (operand && (token.equals("!") || token.equals("(") && open < 8)) {
                waiting.push(token);
                open += token.equals("(") ? 1 : 0;
            } else if (!operand && (token.equals("&") || token.equals("|"))) {
                unload(waiting, postfix, token.equals("&") ? "&" : "&|");
                waiting.push(token);
                operand = true;
            } else if (!operand && token.equals(")") && open > 0) {
                unload(waiting, postfix, "&|");
                waiting.pop();
                unload(waiting, postfix, "!");
                open--;
            } else {
                return new Formula(p, 0, postfix);
            }
        }
        if (operand || open > 0) {
            return new Formula(text.length(), 0, postfix);
        }
        unload(waiting, postfix, "&|");
        return new Formula(-1, set, postfix);
    }

    private static void unload(Deque<String> waiting, List<String> postfix, String which) {
        while (!waiting.isEmpty() && which.contains(waiting.peek())) {
            postfix.add(waiting.pop());
        }
    }

    static boolean isTrue(List<String> postfix, boolean[] truths) {
        Deque<Boolean> stack = new ArrayDeque<>();
        for (String token : postfix) {
            switch (token) {
                case "!" -> stack.push(!stack.pop());
                case "&" -> stack.push(stack.pop() & stack.pop());
                case "|" -> stack.push(stack.pop() | stack.pop());
                default -> stack.push(truths[Integer.parseInt(token)]);
            }
        }
        return stack.pop();
    }

    // ---- constraints as texts

    static String show(int[] row) {
        StringBuilder s = new StringBuilder();
        for (int k = 0; k < 3; k++) {
            if (row[k] != 0) {
                s.append(String.format("%+d%c", row[k], 'x' + k));
            }
        }
        String terms = s.length() == 0 ? "0" : s.toString().replaceAll("([+-])1", "$1").replaceFirst("^\\+", "");
        return terms + new String[] {"<", "<=", "="}[row[3]] + row[4];
    }
}
