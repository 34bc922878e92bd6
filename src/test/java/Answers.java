import java.util.ArrayList;
import java.util.List;

/**
 * What an object answers of its whole state, in four parts. A part may use the object up (it undoes, restores,
 * tells anew), and an object is good for 512 calls: each part wants an object of its own.
 */
final class Answers {
    static final int PARTS = 4;

    private final MeerDrawers x;
    private final List<String> answers = new ArrayList<>();

    private Answers(MeerDrawers x) {
        this.x = x;
    }

    static List<String> of(MeerDrawers x, int part) {
        Answers all = new Answers(x);
        switch (part) {
            case 0: all.catalogue(); break;
            case 1: all.drawer(); break;
            case 2: all.acts(); break;
            default: all.imageAndTape(); break;
        }
        return all.answers;
    }

    private long ask(String call, Check.Call made) {
        long answer = Check.answerOf(made);
        answers.add(call + " " + answer);
        return answer;
    }

    private void catalogue() {
        int cards = x.count(0);
        int clerks = x.count(1);
        for (int card = 0; card < cards; card++) {
            for (int what = 0; what < 5; what++) {
                int c = card;
                int w = what;
                ask("card " + c + " " + w, () -> x.card(c, w));
            }
        }
        for (int clerk = 0; clerk < clerks; clerk++) {
            for (int what = 0; what < 7; what++) {
                int k = clerk;
                int w = what;
                ask("clerk " + k + " " + w, () -> x.clerk(k, w));
            }
            for (int card = 0; card < cards; card++) {
                keyAndRank(clerk, card);
            }
        }
    }

    private void keyAndRank(int clerk, int card) {
        ask("rank " + clerk + " " + card, () -> x.rank(clerk, card));
        int length = (int) ask("key of " + clerk + " " + card, () -> x.key(clerk, card, -1));
        ask("the first of it", () -> x.key(clerk, card, 0));
        ask("the last of it", () -> x.key(clerk, card, length - 1));
    }

    private void drawer() {
        ask("fault", x::fault);
        for (int what = 0; what < 8; what++) {
            int asked = what;
            ask("count " + asked, () -> x.count(asked));
        }
        row("drawer");
        for (int i = 0; i <= 10; i++) {
            int at = i;
            ask("stays " + at, () -> x.stays(at));
        }
        ask("ring", x::ring);
        ask("head", x::head);
        ask("could", x::could);
        ask("explained", x::explained);
        ask("sees", x::sees);
        ask("agreed", x::agreed);
        for (int what = 0; what < 2; what++) {
            int asked = what;
            ask("telling " + asked, () -> x.telling(asked));
            ask("closest " + asked, () -> x.closest(asked));
            ask("years " + asked, () -> x.years(77, 60, asked));
        }
        int cards = x.count(0);
        for (int i = -1; i < cards; i++) {
            int at = i;
            ask("compromise " + at, () -> x.compromise(at));
        }
    }

    private void row(String name) {
        int size = x.count(2);
        for (int place = 0; place < size; place++) {
            int at = place;
            ask(name + " " + at, () -> x.drawer(at));
        }
        answers.add(name + " has " + size);
    }

    private void acts() {
        for (int i = 0; i <= 41; i++) {
            long left = ask("undo " + i, x::undo);
            if (left < 0) {
                return;
            }
            row("undone " + left);
        }
    }

    private void imageAndTape() {
        ask("restore", () -> x.restore() ? 1 : 0);
        row("restored");
        acts();
        int tape = x.count(5);
        ask("catalogue of " + tape, () -> x.catalogue(tape));
        ask("its fault", x::fault);
        ask("its cards", () -> x.count(0));
        ask("its clerks", () -> x.count(1));
    }
}
