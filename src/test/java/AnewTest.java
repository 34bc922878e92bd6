import java.util.ArrayList;
import java.util.List;

/** "All anew" (promise 3): behind other texts an object answers as a new one that was told the last text alone. */
public final class AnewTest {
    private static final Check CHECK = new Check();

    private static final String[] TEXTS = {
        "",
        "card 5 a;",
        "clerk;turn;join;tie 1;skip a;",
        "card 0 b;card 0 a;clerk;",
        "card 0 a;card 0 b;clerk;",
        "card 0 a;card 0 ab;card 0 b;card 0 b a;clerk;clerk;turn;clerk;join;",
        "card 1 c b;card 9 c;card 0 b a;clerk;clerk;turn;clerk;join;tie 0-year;clerk;fold c a;skip b;",
        "card 3 zzzzzzzz zzzzzzzz zzzzzzzz zzzzzzzz;".repeat(9) + "card 3 y;clerk;tie 0-number;clerk;fold z a;tie number;"
            + "clerk;spell zzzzzzzz b;skip b;clerk;turn;join;",
        Drawers.TEN + "clerk;tie 0-number;clerk;tie number=5;clerk;fold a z;fold b z;fold c z;fold d z;fold e z;fold f z;"
            + "fold g z;fold h z;clerk;tie number*number-7*number;turn;join;",
    };

    /** All that a text can hold is used, so that it could be seen behind the next one. */
    private static void use(MeerDrawers x) {
        int cards = x.count(0);
        int clerks = x.count(1);
        for (int clerk = 0; clerk < clerks; clerk++) {
            x.matters(clerk, -1);
            x.matters(clerk, -2);
            for (int card = 0; card < cards; card++) {
                x.put(card, clerk);
            }
            x.stay(clerk);
        }
        x.compromise(-1);
        x.image();
        x.undo();
    }

    /** Cards as clerk 0 puts them, but for the last one, which is moved to the first place. */
    private static void fill(MeerDrawers x) {
        int cards = x.count(1) == 0 ? 0 : x.count(0);
        for (int card = 0; card < cards; card++) {
            x.put(card, 0);
        }
        if (cards > 1) {
            x.move(cards - 1, 0);
        }
    }

    private static List<String> questions(MeerDrawers x) {
        List<String> answers = new ArrayList<>();
        for (int clerk = 0; clerk < 4; clerk++) {
            int k = clerk;
            for (int i = -4; i <= 8; i++) {
                int rule = i;
                answers.add("matters " + k + " " + i + " " + Check.answerOf(() -> x.matters(k, rule)));
            }
            for (int i = -1; i <= 10; i++) {
                int card = i;
                answers.add("search " + k + " " + i + " " + Check.answerOf(() -> x.search(k, card, 0)));
                answers.add("reader " + k + " " + i + " " + Check.answerOf(() -> x.reader(k, card, 2)));
                answers.add("off " + k + " " + i + " " + Check.answerOf(() -> x.off(k, card)));
                answers.add("at " + k + " " + i + " " + Check.answerOf(() -> x.at(k, card)));
            }
        }
        return answers;
    }

    private static List<String> moreQuestions(MeerDrawers x) {
        List<String> answers = new ArrayList<>();
        for (int clerk = 0; clerk < 4; clerk++) {
            int k = clerk;
            for (int other = 0; other < 4; other++) {
                int o = other;
                for (int what = 0; what < 2; what++) {
                    int w = what;
                    answers.add("differ " + k + " " + o + " " + w + " " + Check.answerOf(() -> x.differ(k, o, w)));
                    answers.add("game " + k + " " + o + " " + w + " " + Check.answerOf(() -> x.game(k, o, 1, w)));
                }
            }
            answers.add("worst " + k + " " + Check.answerOf(() -> x.worst(k, 0)));
            answers.add("hardest " + k + " " + Check.answerOf(() -> x.worst(k, 1)));
            for (int tray = -1; tray < 10; tray++) {
                int t = tray;
                answers.add("trays " + k + " " + t + " " + Check.answerOf(() -> x.trays(k, 1, t)));
            }
        }
        for (int card = 0; card < 10; card++) {
            int c = card;
            answers.add("votes " + c + " " + Check.answerOf(() -> x.votes(c, 1)));
        }
        return answers;
    }

    private static List<String> answers(MeerDrawers x, int part) {
        if (part < Answers.PARTS) {
            return Answers.of(x, part);
        }
        return part == Answers.PARTS ? questions(x) : moreQuestions(x);
    }

    private static MeerDrawers told(String... texts) {
        MeerDrawers x = new MeerDrawers();
        for (int i = 0; i < texts.length; i++) {
            String text = texts[i];
            CHECK.due("catalogue of " + text, 0, () -> Check.tell(x, text));
            if (i + 1 < texts.length) {
                use(x);
            }
        }
        return x;
    }

    /** How many acts were refused is told on and on; all else is of the last text. */
    private static String withoutStatus(List<String> answers) {
        answers.removeIf(line -> line.startsWith("count 7 "));
        return String.join("\n", answers);
    }

    private static void compare(int part, String... texts) {
        MeerDrawers x = told(texts);
        MeerDrawers fresh = told(texts[texts.length - 1]);
        fill(x);
        fill(fresh);
        String want = withoutStatus(answers(fresh, part));
        String got = withoutStatus(answers(x, part));
        CHECK.holds("part " + part + " behind " + String.join(" | ", texts), want.equals(got));
    }

    public static void main(String[] args) {
        for (String last : TEXTS) {
            for (String first : TEXTS) {
                for (int part = 0; part <= Answers.PARTS + 1; part++) {
                    compare(part, first, last);
                    for (String between : TEXTS) {
                        compare(part, first, between, last);
                    }
                }
            }
        }
        CHECK.end();
    }
}
