import java.util.HashSet;
import java.util.List;
import java.util.Random;
import java.util.Set;
import java.util.function.IntUnaryOperator;

/** Makes texts together with what they tell; few words and letters, so that keys are often alike. */
final class RandomTexts {
    private static final String[] WORDS = {"a", "b", "ab", "ba", "the", "van", "der", "aa", "st", "saint", "bab", "abcdefgh"};

    final Random random;
    private final StringBuilder text = new StringBuilder();

    RandomTexts(long seed) {
        random = new Random(seed);
    }

    /** A part of an expression: its text, its rank among operators and its value of a card. */
    private record Part(String text, int level, IntUnaryOperator value) { }

    private String word() {
        return WORDS[random.nextInt(WORDS.length)];
    }

    private String letter() {
        return String.valueOf((char) ('a' + random.nextInt(5)));
    }

    private String blank() {
        return random.nextInt(6) == 0 ? "\n" : random.nextInt(6) == 0 ? "  " : " ";
    }

    /** Fills the model and answers its text; both anew until the text is short enough. */
    String tell(Model model, int mostCards, int mostClerks) {
        for (int i = 0; i < 1000; i++) {
            model.cards.clear();
            model.clerks.clear();
            text.setLength(0);
            int cards = random.nextInt(mostCards + 1);
            int clerks = random.nextInt(mostClerks + 1);
            while (cards > 0 || clerks > 0) {
                if (random.nextInt(cards + clerks) < cards) {
                    card(model);
                    cards--;
                } else {
                    clerk(model);
                    clerks--;
                }
            }
            if (text.length() <= 700) {
                return text.toString();
            }
        }
        throw new IllegalStateException("no text is short enough");
    }

    private void card(Model model) {
        int year = random.nextInt(4) == 0 ? random.nextInt(1000) : random.nextInt(3);
        List<String> words = new java.util.ArrayList<>();
        text.append("card").append(blank()).append(year);
        int many = 1 + random.nextInt(random.nextInt(4) + 1);
        for (int i = 0; i < many; i++) {
            words.add(word());
            text.append(blank()).append(words.get(i));
        }
        text.append(';');
        model.cards.add(new Model.Card(year, words));
    }

    private void clerk(Model model) {
        Model.Clerk clerk = new Model.Clerk();
        text.append("clerk;");
        Set<String> told = new HashSet<>();
        int many = random.nextInt(9);
        for (int i = 0; i < many; i++) {
            String kind = new String[] {"skip", "spell", "fold"}[random.nextInt(3)];
            String from = kind.equals("fold") ? letter() : word();
            String to = kind.equals("skip") ? null : kind.equals("fold") ? letter() : word();
            if (told.add(kind + from)) {
                text.append(kind).append(blank()).append(from).append(to == null ? "" : blank() + to).append(';');
                clerk.rules.add(new Model.Rule(kind, from, to));
            }
        }
        if (random.nextInt(3) == 0) {
            text.append("turn;");
            clerk.turn = true;
        }
        if (random.nextInt(3) == 0) {
            text.append("join ;");
            clerk.join = true;
        }
        if (random.nextInt(2) == 0) {
            Part tie = part(model, 3, 0);
            text.append("tie ").append(tie.text()).append(';');
            clerk.tie = tie.value();
        }
        model.clerks.add(clerk);
    }

    /** Levels: 0 or, 1 and, 2 not, 3 tests, 4 sums, 5 products, 6 parts. */
    private Part part(Model model, int depth, int least) {
        if (depth == 0) {
            return leaf(model);
        }
        int level = random.nextInt(7);
        Part made = level == 6 ? leaf(model) : level == 2 ? not(model, depth) : joined(model, depth, level);
        if (made.level() < least) {
            return new Part("(" + made.text() + ")", 6, made.value());
        }
        return made;
    }

    private Part leaf(Model model) {
        switch (random.nextInt(5)) {
            case 0: return new Part("year", 6, card -> model.cards.get(card).year());
            case 1: return new Part("words", 6, card -> model.cards.get(card).words().size());
            case 2: return new Part("letters", 6, card -> String.join("", model.cards.get(card).words()).length());
            case 3: return new Part("number", 6, card -> card);
            default:
                int number = random.nextInt(3) == 0 ? random.nextInt(10000) : random.nextInt(4);
                return new Part(String.valueOf(number), 6, card -> number);
        }
    }

    private Part not(Model model, int depth) {
        Part of = part(model, depth - 1, 2);
        return new Part("not " + of.text(), 2, card -> of.value().applyAsInt(card) == 0 ? 1 : 0);
    }

    private Part joined(Model model, int depth, int level) {
        String[][] signs = {{"or"}, {"and"}, {}, {"<", "="}, {"+", "-"}, {"*", "/"}};
        String sign = signs[level][random.nextInt(signs[level].length)];
        // From the left: the left side may be of the same level, the right one may not; tests have sums on both.
        Part left = part(model, depth - 1, level == 3 ? 4 : level);
        Part right = part(model, depth - 1, level + 1);
        return new Part(left.text() + " " + sign + " " + right.text(), level,
                card -> join(sign, left.value().applyAsInt(card), right.value().applyAsInt(card)));
    }

    private static int join(String sign, int left, int right) {
        switch (sign) {
            case "or": return left != 0 | right != 0 ? 1 : 0;
            case "and": return left != 0 & right != 0 ? 1 : 0;
            case "<": return left < right ? 1 : 0;
            case "=": return left == right ? 1 : 0;
            case "+": return left + right;
            case "-": return left - right;
            case "*": return left * right;
            default: return right == 0 ? 0 : left / right;
        }
    }
}
