import java.util.Random;

/** Texts of laws by chance: right ones, and ones with a slip. */
final class LawTexts {
    private static final String[] FACTS = {"sort", "scene", "before", "heads", "own", "minute", "played"};
    private static final String[] TOKENS = {"stays", "price", "if", "or", "and", "not", "(", ")", "[", "]", "<", ">",
        "=", "+", "-", "*", "/", ";", "sort", "own", "heads", "7", "0", "1000", "1001", "00012", "staysx", "A", "\t", "x"};

    private final Random random;

    LawTexts(Random random) {
        this.random = random;
    }

    private int pick(int n) {
        return random.nextInt(n);
    }

    private String number() {
        return Integer.toString(pick(6) == 0 ? pick(1001) : pick(3) == 0 ? pick(101) : pick(6));
    }

    private String part(int depth) {
        if (depth > 0 && pick(5) == 0) {
            return "[" + sum(depth - 1) + "]";
        }
        return pick(2) == 0 ? FACTS[pick(7)] : number();
    }

    private String term(int depth) {
        StringBuilder text = new StringBuilder(part(depth));
        while (pick(3) == 0) {
            text.append(pick(3) == 0 ? " / " : "*").append(part(depth));
        }
        return text.toString();
    }

    String sum(int depth) {
        StringBuilder text = new StringBuilder(term(depth));
        while (pick(3) == 0) {
            text.append(pick(2) == 0 ? " + " : "-").append(term(depth));
        }
        return text.toString();
    }

    private String plain(int depth) {
        if (pick(6) == 0) {
            return "not " + plain(depth);
        }
        if (depth > 0 && pick(4) == 0) {
            return "(" + test(depth - 1) + ")";
        }
        return sum(depth) + "<>=".charAt(pick(3)) + sum(depth);
    }

    private String test(int depth) {
        StringBuilder text = new StringBuilder(plain(depth));
        while (pick(3) == 0) {
            text.append(pick(2) == 0 ? " or " : " and ").append(plain(depth));
        }
        return text.toString();
    }

    private String clause() {
        String sum = pick(2) == 0 ? 30 + pick(80) + (pick(2) == 0 ? "-" : "+") + sum(1) : sum(2);
        return (pick(3) == 0 ? "price " : "stays ") + sum + (pick(2) == 0 ? " if " + test(2) : "");
    }

    /** A clause whose chances are neither none nor all, for most who are asked. */
    private String mild() {
        String[] facts = {"sort", "scene", "before", "heads", "own", "played"};
        String fact = facts[pick(6)];
        String test = pick(2) == 0 ? " if " + facts[pick(6)] + "<>=".charAt(pick(3)) + pick(4) : "";
        if (pick(3) == 0) {
            return "price " + pick(30) + "+" + pick(9) + "*" + fact + test;
        }
        return "stays " + (25 + pick(60)) + "+-".charAt(pick(2)) + (1 + pick(12)) + "*" + fact + test;
    }

    String mildLaw() {
        StringBuilder text = new StringBuilder(mild());
        for (int i = pick(5); i > 0; i--) {
            text.append("; ").append(mild());
        }
        return text.toString();
    }

    String law() {
        StringBuilder text = new StringBuilder(clause());
        while (pick(3) > 0 && text.length() < 250) {
            text.append(pick(2) == 0 ? ";" : " ; ").append(clause());
        }
        return text.length() <= 400 ? text.toString() : text.substring(0, 400);
    }

    /** A law in which some tokens were taken out, put in, or changed. */
    String slipped() {
        String text = law();
        for (int slips = 1 + pick(2); slips > 0; slips--) {
            int at = pick(text.length() + 1);
            int to = Math.min(text.length(), at + pick(4));
            String put = pick(3) == 0 ? "" : pick(2) == 0 ? " " + TOKENS[pick(TOKENS.length)] + " " : TOKENS[pick(TOKENS.length)];
            text = text.substring(0, at) + put + text.substring(to);
        }
        return text.length() <= 400 ? text : text.substring(0, 400);
    }

    /** Tokens in any order. */
    String heap() {
        StringBuilder text = new StringBuilder();
        for (int i = pick(30); i > 0; i--) {
            text.append(TOKENS[pick(TOKENS.length)]).append(pick(3) == 0 ? "" : " ");
        }
        return text.toString();
    }

    /** Texts that come near the document's limits of clauses, parts and brackets. */
    String great() {
        StringBuilder text = new StringBuilder();
        int kind = pick(3);
        if (kind == 0) {
            for (int i = 11 + pick(4); i > 0; i--) {
                text.append("price ").append(pick(10)).append(pick(4) == 0 ? " if own>1" : "").append(i > 1 ? ";" : "");
            }
        } else if (kind == 1) {
            text.append("stays 1");
            for (int i = 47 + pick(5); i > 0; i--) {
                text.append("+-*".charAt(pick(3))).append(pick(5) == 0 ? "own" : "1");
            }
        } else {
            int outer = pick(9);
            int inner = 8 + pick(2) - outer;
            text.append("stays 5 if ");
            for (int i = 0; i < outer; i++) {
                text.append(pick(3) == 0 ? "not(" : "(");
            }
            text.append("[".repeat(inner)).append("own").append("]".repeat(inner)).append(">1").append(")".repeat(outer));
        }
        if (pick(3) == 0) {
            text.append(TOKENS[pick(TOKENS.length)]);
        }
        return text.length() <= 400 ? text.toString() : text.substring(0, 400);
    }
}
