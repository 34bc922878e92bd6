import java.util.ArrayDeque;
import java.util.ArrayList;
import java.util.Arrays;
import java.util.Deque;
import java.util.HashSet;
import java.util.List;
import java.util.Set;
import java.util.regex.Matcher;
import java.util.regex.Pattern;

/** The faults of a text a second time: a stack of what is still due instead of methods that call one another. */
final class Grammar {
    record Token(String kind, String text, int start) { }

    private static final Pattern TOKEN = Pattern.compile("([a-z]+)|([0-9]+)|([;()+*/<=-])|[^ \\n]", Pattern.DOTALL);
    private static final Set<String> VALUES = Set.of("year", "words", "letters", "number");

    private final List<Token> tokens = new ArrayList<>();
    private final Deque<String> due = new ArrayDeque<>();
    private final Set<String> told = new HashSet<>();
    private int cards = 0;
    private int clerks = 0;
    private int rules = 0;
    private int words = 0;
    private int around = 0;
    private int nots = 0;
    private String rule = "";

    int fault = 0;
    int place = -1;

    Grammar(String text) {
        Matcher matcher = TOKEN.matcher(text);
        while (matcher.find()) {
            String kind = matcher.group(1) != null ? "word" : matcher.group(2) != null ? "number"
                    : matcher.group(3) != null ? "sign" : "none";
            tokens.add(new Token(kind, matcher.group(), matcher.start()));
        }
        tokens.add(new Token("end", "", text.length()));
        push("LINES");
        int next = 0;
        while (!due.isEmpty() && fault == 0) {
            Token token = tokens.get(next);
            if (step(due.pop(), token)) {
                next++;
            }
            place = fault == 0 ? -1 : token.start();
        }
    }

    private void push(String... symbols) {
        List<String> all = new ArrayList<>(Arrays.asList(symbols));
        for (int i = all.size() - 1; i >= 0; i--) {
            due.push(all.get(i));
        }
    }

    private boolean refuse(int kind) {
        fault = kind;
        return false;
    }

    /** Whether the token is used up by what is due. */
    private boolean step(String symbol, Token token) {
        boolean word = token.kind().equals("word");
        boolean number = token.kind().equals("number");
        String text = token.text();
        switch (symbol) {
            case "LINES":
                if (!token.kind().equals("end")) {
                    push("LINE", ";", "LINES");
                }
                return false;
            case "LINE":
                return line(text);
            case "YEAR":
                return number ? text.length() > 4 || Integer.parseInt(text) > 999 ? refuse(2) : true : refuse(1);
            case "WORD":
                return word ? text.length() > 8 ? refuse(2) : true : refuse(1);
            case "WORDS":
                words++;
                if (word) {
                    push("WORDS");
                    return words == 4 || text.length() > 8 ? refuse(2) : true;
                }
                return false;
            case "FROM":
                int most = rule.equals("fold") ? 1 : 8;
                return !word ? refuse(1) : text.length() > most ? refuse(2) : told.add(rule + text) || refuse(4);
            case "LETTER":
                return word ? text.length() > 1 ? refuse(2) : true : refuse(1);
            default:
                return stepOfTie(symbol, token, word, number);
        }
    }

    private boolean line(String text) {
        switch (text) {
            case "card":
                push("YEAR", "WORD", "WORDS");
                words = 0;
                return ++cards <= 10 || refuse(2);
            case "clerk":
                rules = 0;
                told.clear();
                return ++clerks <= 4 || refuse(2);
            case "skip": case "spell": case "fold":
                if (clerks == 0) {
                    return refuse(1);
                }
                rule = text;
                push("FROM");
                if (!text.equals("skip")) {
                    due.pop();
                    push("FROM", text.equals("fold") ? "LETTER" : "WORD");
                }
                return ++rules <= 8 || refuse(2);
            case "turn": case "join": case "tie":
                if (clerks == 0) {
                    return refuse(1);
                }
                if (text.equals("tie")) {
                    around = -1;
                    push("EXPR");
                }
                return told.add(text + ";") || refuse(5);
            default:
                return refuse(1);
        }
    }

    private boolean stepOfTie(String symbol, Token token, boolean word, boolean number) {
        String text = token.text();
        switch (symbol) {
            case "EXPR":
                around++;
                if (around >= 6) {
                    return refuse(word || number || text.equals("(") ? 2 : 1);
                }
                nots = 0;
                push("NOT", "ANDS", "ORS", "EXPREND");
                return false;
            case "EXPREND":
                around--;
                return false;
            case "NOT":
                if (text.equals("not")) {
                    push("NOT");
                    return ++nots <= 6 || refuse(2);
                }
                push("PART", "PRODUCTS", "SUMS", "TEST");
                return false;
            case "TEST":
                return maybe(text, "<=", "PART", "PRODUCTS", "SUMS");
            case "SUMS":
                return maybe(text, "+-", "PART", "PRODUCTS", "SUMS");
            case "PRODUCTS":
                return maybe(text, "*/", "PART", "PRODUCTS");
            case "ANDS": case "ORS":
                if (!text.equals(symbol.equals("ANDS") ? "and" : "or")) {
                    return false;
                }
                nots = 0;
                if (symbol.equals("ANDS")) {
                    push("NOT", "ANDS");
                } else {
                    push("NOT", "ANDS", "ORS");
                }
                return true;
            case "PART":
                return part(text, word, number);
            default:
                return text.equals(symbol) || refuse(1);
        }
    }

    private boolean maybe(String text, String signs, String... symbols) {
        if (text.length() != 1 || signs.indexOf(text.charAt(0)) < 0) {
            return false;
        }
        push(symbols);
        return true;
    }

    private boolean part(String text, boolean word, boolean number) {
        if (word) {
            return VALUES.contains(text) || refuse(3);
        }
        if (number) {
            return text.length() <= 4 || refuse(2);
        }
        if (text.equals("(")) {
            push("EXPR", ")");
            return true;
        }
        return refuse(1);
    }
}
