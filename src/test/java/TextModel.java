import java.util.ArrayDeque;
import java.util.ArrayList;
import java.util.Deque;
import java.util.List;
import java.util.regex.Matcher;
import java.util.regex.Pattern;

/**
 * Texts in another way than the class: faults by a machine that waits for an operand or for what may stand
 * behind one, values by cutting the row of tokens at the sign that binds least.
 */
final class TextModel {
    private static final Pattern TOKEN = Pattern.compile("[a-z]+|[0-9]+|[();+*<=-]");
    private static final List<String> NAMES = List.of("from", "to", "period", "now", "papers", "open");

    int fault = -1;
    private final List<String> tokens = new ArrayList<>();
    private final List<Integer> places = new ArrayList<>();

    static TextModel read(String text) {
        TextModel x = new TextModel();
        x.cut(text);
        x.fault = x.findFault();
        return x;
    }

    private void cut(String text) {
        int at = 0;
        while (at < text.length()) {
            if (text.charAt(at) == ' ' || text.charAt(at) == '\n') {
                at++;
                continue;
            }
            Matcher m = TOKEN.matcher(text).region(at, text.length());
            boolean is = m.lookingAt();
            String token = is ? m.group() : "?";
            boolean tooLong = Character.isDigit(token.charAt(0)) && token.length() > 4;
            tokens.add(tooLong ? "?" : token);
            places.add(at);
            at += token.length();
        }
        tokens.add("end");
        places.add(text.length());
    }

    private static boolean isOperand(String token) {
        return NAMES.contains(token) || Character.isDigit(token.charAt(0));
    }

    private int findFault() {
        int k = 0;
        for (String key : List.of("hold", "limit")) {
            if (!tokens.get(k).equals(key)) return places.get(k);
            k++;
            int end = endOfE(k);
            if (end < 0) return places.get(-1 - end);
            k = end;
        }
        return tokens.get(k).equals("end") && k == tokens.size() - 1 ? -1 : places.get(k);
    }

    /** Answers the token behind the ; of an E from k on, or -1 less the token that can't stand. */
    private int endOfE(int k) {
        Deque<String> open = new ArrayDeque<>();
        Deque<Boolean> comparedOutside = new ArrayDeque<>();
        boolean waits = true;
        boolean mayNot = true;
        boolean compared = false;
        for (; k < tokens.size(); k++) {
            String x = tokens.get(k);
            if (waits) {
                if (isOperand(x)) {
                    waits = false;
                    while ("-".equals(open.peek())) open.pop();
                    continue;
                }
                boolean opens = x.equals("-") || x.equals("(") || x.equals("not") && mayNot;
                if (!opens || open.size() == 5) return -1 - k;
                open.push(x);
                mayNot = !x.equals("-");
                if (x.equals("(")) {
                    comparedOutside.push(compared);
                    compared = false;
                }
                continue;
            }
            switch (x) {
                case "+", "-", "*" -> mayNot = false;
                case "<", "=" -> {
                    if (compared) return -1 - k;
                    compared = true;
                    mayNot = false;
                }
                case "and", "or" -> {
                    while ("not".equals(open.peek())) open.pop();
                    compared = false;
                    mayNot = true;
                }
                case ")" -> {
                    while ("not".equals(open.peek())) open.pop();
                    if (!"(".equals(open.peek())) return -1 - k;
                    open.pop();
                    compared = comparedOutside.pop();
                    while ("-".equals(open.peek())) open.pop();
                }
                case ";" -> {
                    while ("not".equals(open.peek())) open.pop();
                    return open.isEmpty() ? k + 1 : -1 - k;
                }
                default -> {
                    return -1 - k;
                }
            }
            waits = !x.equals(")");
        }
        return -tokens.size();
    }

    int value(int part, int[] names) {
        int cut = tokens.indexOf(";");
        List<String> e = part == 0 ? tokens.subList(1, cut) : tokens.subList(cut + 2, tokens.size() - 2);
        return valueOf(e, names);
    }

    private static int valueOf(List<String> e, int[] names) {
        int or = lastOutside(e, "or");
        if (or >= 0) return valueOf(e.subList(0, or), names) != 0 | valueOf(e.subList(or + 1, e.size()), names) != 0 ? 1 : 0;
        int and = lastOutside(e, "and");
        if (and >= 0) return valueOf(e.subList(0, and), names) != 0 & valueOf(e.subList(and + 1, e.size()), names) != 0 ? 1 : 0;
        if (e.get(0).equals("not")) return valueOf(e.subList(1, e.size()), names) == 0 ? 1 : 0;
        for (String sign : List.of("<", "=")) {
            int at = lastOutside(e, sign);
            if (at < 0) continue;
            int x = valueOf(e.subList(0, at), names);
            int y = valueOf(e.subList(at + 1, e.size()), names);
            return (sign.equals("<") ? x < y : x == y) ? 1 : 0;
        }
        int sum = lastSum(e);
        if (sum >= 0) {
            long x = valueOf(e.subList(0, sum), names);
            long y = valueOf(e.subList(sum + 1, e.size()), names);
            return (int) (e.get(sum).equals("+") ? x + y : x - y);
        }
        int times = lastOutside(e, "*");
        if (times >= 0) {
            return (int) ((long) valueOf(e.subList(0, times), names) * valueOf(e.subList(times + 1, e.size()), names));
        }
        String first = e.get(0);
        if (first.equals("-")) return (int) -(long) valueOf(e.subList(1, e.size()), names);
        if (first.equals("(")) return valueOf(e.subList(1, e.size() - 1), names);
        return NAMES.contains(first) ? names[NAMES.indexOf(first)] : Integer.parseInt(first);
    }

    private static int lastOutside(List<String> e, String sign) {
        int depth = 0;
        for (int k = e.size() - 1; k >= 0; k--) {
            if (e.get(k).equals(")")) depth++;
            if (e.get(k).equals("(")) depth--;
            if (depth == 0 && e.get(k).equals(sign)) return k;
        }
        return -1;
    }

    /** The last + or - between two terms: one that stands behind an operand or a ) . */
    private static int lastSum(List<String> e) {
        int depth = 0;
        for (int k = e.size() - 1; k > 0; k--) {
            if (e.get(k).equals(")")) depth++;
            if (e.get(k).equals("(")) depth--;
            boolean behindOne = isOperand(e.get(k - 1)) || e.get(k - 1).equals(")");
            if (depth == 0 && behindOne && (e.get(k).equals("+") || e.get(k).equals("-"))) return k;
        }
        return -1;
    }
}
