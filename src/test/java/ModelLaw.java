import java.util.ArrayList;
import java.util.LinkedHashSet;
import java.util.List;
import java.util.Set;

/**
 * A law for the Model. Where a text fails is found by all readings of the grammar at once (Earley's way),
 * so that nothing hangs on how the program reads it; a text that is right is told by a tree of its own.
 */
final class ModelLaw {
    private static final List<String> FACTS =
        List.of("sort", "scene", "before", "heads", "own", "minute", "played");

    /** Each rule: what is made, then what of. Small signs and marks are kinds of tokens. */
    private static final String[] RULES = {
        "LC", "LL;C", "ChS", "ChSiT", "TB", "TToB", "BP", "BBaP", "PnP", "P(T)", "PScS",
        "SM", "SS+M", "MX", "MM*X", "Xp", "X[S]"};

    private static final class Broken extends RuntimeException {
        private static final long serialVersionUID = 1L;
    }

    private final List<String> tokens;

    ModelLaw(String text) {
        tokens = new ArrayList<>();
        for (int[] token : split(text)) {
            tokens.add(text.substring(token[0], token[1]));
        }
    }

    private static boolean letter(char c) {
        return c >= 'a' && c <= 'z';
    }

    private static boolean digit(char c) {
        return c >= '0' && c <= '9';
    }

    private static List<int[]> split(String text) {
        List<int[]> list = new ArrayList<>();
        int i = 0;
        while (i < text.length()) {
            int j = i + 1;
            char c = text.charAt(i);
            while (j < text.length()
                    && (letter(c) && letter(text.charAt(j)) || digit(c) && digit(text.charAt(j)))) {
                j++;
            }
            if (c != ' ') {
                list.add(new int[] {i, j});
            }
            i = j;
        }
        return list;
    }

    private static char kind(String token) {
        switch (token) {
            case "stays": case "price": return 'h';
            case "if": return 'i';
            case "or": return 'o';
            case "and": return 'a';
            case "not": return 'n';
            case "<": case ">": case "=": return 'c';
            case "+": case "-": return '+';
            case "*": case "/": return '*';
            case "(": case ")": case "[": case "]": case ";": return token.charAt(0);
            default: break;
        }
        if (FACTS.contains(token)) {
            return 'p';
        }
        return digit(token.charAt(0)) && new java.math.BigInteger(token).bitLength() < 20
            && Integer.parseInt(token) <= 1000 ? 'p' : '?';
    }

    /** An item: rule, dot, origin. */
    private static Set<List<Integer>> closed(List<Set<List<Integer>>> sets, Set<List<Integer>> seeds, int place) {
        Set<List<Integer>> all = new LinkedHashSet<>();
        List<List<Integer>> open = new ArrayList<>(seeds);
        while (!open.isEmpty()) {
            List<Integer> item = open.remove(open.size() - 1);
            if (!all.add(item)) {
                continue;
            }
            String rule = RULES[item.get(0)];
            int dot = item.get(1);
            if (dot == rule.length()) {
                // No rule makes nothing, so the set it began in is another one.
                for (List<Integer> waiting : sets.get(item.get(2))) {
                    String other = RULES[waiting.get(0)];
                    if (waiting.get(1) < other.length() && other.charAt(waiting.get(1)) == rule.charAt(0)) {
                        open.add(List.of(waiting.get(0), waiting.get(1) + 1, waiting.get(2)));
                    }
                }
            } else {
                for (int r = 0; r < RULES.length; r++) {
                    if (RULES[r].charAt(0) == rule.charAt(dot)) {
                        open.add(List.of(r, 1, place));
                    }
                }
            }
        }
        return all;
    }

    /** -1 if the text is a law. */
    static int fault(String text) {
        List<Set<List<Integer>>> sets = new ArrayList<>();
        Set<List<Integer>> seeds = new LinkedHashSet<>();
        seeds.add(List.of(0, 1, 0));
        seeds.add(List.of(1, 1, 0));
        sets.add(closed(sets, seeds, 0));
        int clauses = 1;
        int parts = 0;
        int brackets = 0;
        for (int[] token : split(text)) {
            char kind = kind(text.substring(token[0], token[1]));
            Set<List<Integer>> next = new LinkedHashSet<>();
            for (List<Integer> item : sets.get(sets.size() - 1)) {
                String rule = RULES[item.get(0)];
                if (item.get(1) < rule.length() && rule.charAt(item.get(1)) == kind) {
                    next.add(List.of(item.get(0), item.get(1) + 1, item.get(2)));
                }
            }
            parts += kind == 'p' ? 1 : 0;
            brackets += kind == '(' || kind == '[' ? 1 : kind == ')' || kind == ']' ? -1 : 0;
            if (next.isEmpty() || parts > 50 || brackets > 8 || clauses > 12) {
                return token[0];
            }
            clauses += kind == ';' ? 1 : 0;
            sets.add(closed(sets, next, sets.size()));
        }
        for (List<Integer> item : sets.get(sets.size() - 1)) {
            if (RULES[item.get(0)].charAt(0) == 'L' && item.get(1) == RULES[item.get(0)].length()) {
                return -1;
            }
        }
        return text.length();
    }

    /** What a head tells, or null: all clauses are told in order, and the last one that holds stands. */
    Long tells(String head, long[] facts) {
        Long told = null;
        List<List<String>> clauses = new ArrayList<>();
        clauses.add(new ArrayList<>());
        for (String token : tokens) {
            if (token.equals(";")) {
                clauses.add(new ArrayList<>());
            } else {
                clauses.get(clauses.size() - 1).add(token);
            }
        }
        for (List<String> clause : clauses) {
            if (!clause.get(0).equals(head)) {
                continue;
            }
            int split = clause.indexOf("if");
            try {
                long sum = sum(clause.subList(1, split < 0 ? clause.size() : split), facts);
                if (split < 0 || test(clause.subList(split + 1, clause.size()), facts)) {
                    told = sum;
                }
            } catch (Broken broken) {
                continue;
            }
        }
        return told;
    }

    /** The place of the first or last token of these outside of brackets, or -1. */
    private static int outside(List<String> list, List<String> wanted, boolean last) {
        int depth = 0;
        int found = -1;
        for (int i = 0; i < list.size(); i++) {
            String token = list.get(i);
            depth += token.equals("(") || token.equals("[") ? 1 : token.equals(")") || token.equals("]") ? -1 : 0;
            if (depth == 0 && wanted.contains(token) && (last || found < 0)) {
                found = i;
            }
        }
        return found;
    }

    private static boolean test(List<String> list, long[] facts) {
        int or = outside(list, List.of("or"), false);
        if (or >= 0) {
            return test(list.subList(0, or), facts) || test(list.subList(or + 1, list.size()), facts);
        }
        int and = outside(list, List.of("and"), false);
        if (and >= 0) {
            return test(list.subList(0, and), facts) && test(list.subList(and + 1, list.size()), facts);
        }
        if (list.get(0).equals("not")) {
            return !test(list.subList(1, list.size()), facts);
        }
        if (list.get(0).equals("(")) {
            return test(list.subList(1, list.size() - 1), facts);
        }
        int sign = outside(list, List.of("<", ">", "="), false);
        long a = sum(list.subList(0, sign), facts);
        long b = sum(list.subList(sign + 1, list.size()), facts);
        return list.get(sign).equals("<") ? a < b : list.get(sign).equals(">") ? a > b : a == b;
    }

    private static long sum(List<String> list, long[] facts) {
        int at = outside(list, List.of("+", "-"), true);
        at = at >= 0 ? at : outside(list, List.of("*", "/"), true);
        if (at < 0) {
            if (list.get(0).equals("[")) {
                return sum(list.subList(1, list.size() - 1), facts);
            }
            int fact = FACTS.indexOf(list.get(0));
            return fact >= 0 ? facts[fact] : Long.parseLong(list.get(0));
        }
        long a = sum(list.subList(0, at), facts);
        long b = sum(list.subList(at + 1, list.size()), facts);
        String sign = list.get(at);
        if (sign.equals("/") && b == 0) {
            throw new Broken();
        }
        long value = sign.equals("+") ? a + b : sign.equals("-") ? a - b : sign.equals("*") ? a * b : a / b;
        if (Math.abs(value) > 1000000000L) {
            throw new Broken();
        }
        return value;
    }
}
