import java.util.List;
import java.util.Random;

/** Long runs of calls, each answer held against Model. */
public final class RandomRunTest {
    private static final Check CHECK = new Check();

    /** Nothing is promised of an object behind its 512th call; a step makes fewer than 30, a text fewer than 40. */
    private static final int MOST_CALLS = 440;

    private final MeerDrawers x = new MeerDrawers();
    private final RandomTexts texts;
    private final Random random;
    private final String run;
    private Model model = new Model();
    private int calls = 0;

    private RandomRunTest(long seed) {
        texts = new RandomTexts(seed);
        random = texts.random;
        run = "run " + seed + ": ";
    }

    private void due(String call, long want, Check.Call made) {
        calls++;
        CHECK.due(run + call, want, made);
    }

    private void tell() {
        Model next = new Model();
        int mostCards = random.nextInt(4) == 0 ? 10 : 7;
        String text = texts.tell(next, mostCards, 4);
        next.refusedActs = model.refusedActs;
        due("catalogue of " + text, 0, () -> Check.tell(x, text));
        calls += text.length() / 20 + 1;
        model = next;
    }

    /** Mostly a number from 0 on below a bound, sometimes one a little outside. */
    private int some(int bound) {
        if (random.nextInt(25) == 0) {
            return random.nextBoolean() ? -1 - random.nextInt(3) : bound + random.nextInt(3);
        }
        return bound <= 0 ? 0 : random.nextInt(bound);
    }

    private boolean isCard(int card) {
        return card >= 0 && card < model.cards.size();
    }

    private boolean isClerk(int clerk) {
        return clerk >= 0 && clerk < model.clerks.size();
    }

    private static boolean isTwo(int what) {
        return what == 0 || what == 1;
    }

    private void act() {
        int card = some(model.cards.size());
        int clerk = some(model.clerks.size());
        int place = some(model.drawer.size());
        switch (random.nextInt(9)) {
            case 0: case 1: case 2:
                due("put " + card + " " + clerk, isCard(card) && isClerk(clerk) ? model.put(card, clerk) : Check.NO_SUCH,
                        () -> x.put(card, clerk));
                break;
            case 3:
                due("take " + card, isCard(card) ? model.take(card) : Check.NO_SUCH, () -> x.take(card));
                break;
            case 4: case 5:
                due("move " + card + " " + place, isCard(card) ? model.move(card, place) : Check.NO_SUCH,
                        () -> x.move(card, place));
                break;
            case 6:
                due("file " + clerk, isClerk(clerk) ? model.file(clerk) : Check.NO_SUCH, () -> x.file(clerk));
                break;
            case 7:
                due("undo", model.undo(), x::undo);
                break;
            default:
                imageOrRestore();
        }
        // Not behind each act: calls are few, and what went wrong is still seen later.
        if (random.nextInt(3) == 0) {
            drawerStands();
        }
    }

    private void imageOrRestore() {
        if (random.nextBoolean()) {
            model.image();
            x.image();
        } else {
            due("restore", model.restore() ? 1 : 0, () -> x.restore() ? 1 : 0);
        }
    }

    private void drawerStands() {
        for (int place = 0; place < model.drawer.size(); place++) {
            int at = place;
            due("drawer " + at, model.drawer.get(at), () -> x.drawer(at));
        }
        due("drawer beyond", Check.NO_SUCH, () -> x.drawer(model.drawer.size()));
        due("drawer ahead", Check.NO_SUCH, () -> x.drawer(-1));
        int[] counts = {model.cards.size(), model.clerks.size(), model.drawer.size(), Model.bits(model.drawer),
            model.acts.size(), 0, 0, model.refusedActs};
        int what = random.nextInt(counts.length);
        due("count " + what, counts[what], () -> x.count(what));
    }

    private void askOfCards() {
        int clerk = some(model.clerks.size());
        int card = some(model.cards.size());
        int other = some(model.cards.size());
        int what = some(5);
        boolean fine = isClerk(clerk) && isCard(card);
        due("card " + card + " " + what, isCard(card) ? cardAnswer(card, what) : Check.NO_SUCH, () -> x.card(card, what));
        due("before " + clerk + " " + card + " " + other,
                fine && isCard(other) ? model.before(clerk, card, other) ? 1 : 0 : Check.NO_SUCH,
                () -> x.before(clerk, card, other) ? 1 : 0);
        due("rank " + clerk + " " + card, fine ? model.rank(clerk, card) : Check.NO_SUCH, () -> x.rank(clerk, card));
        due("at " + clerk + " " + card, fine ? model.filed(model.all(), clerk).get(card) : Check.NO_SUCH,
                () -> x.at(clerk, card));
        due("votes " + card + " " + other, isCard(card) && isCard(other) ? model.votes(card, other) : Check.NO_SUCH,
                () -> x.votes(card, other));
        keyStands(clerk, card);
        int letters = some(10);
        long read = letters < 0 || letters > 9 ? Check.ILLEGAL : fine ? model.reader(clerk, card, letters) : 0;
        due("reader " + clerk + " " + card + " " + letters, fine ? read : Check.NO_SUCH, () -> x.reader(clerk, card, letters));
        due("off " + clerk + " " + card, fine ? offAnswer(clerk, card) : Check.NO_SUCH, () -> x.off(clerk, card));
    }

    private long cardAnswer(int card, int what) {
        Model.Card asked = model.cards.get(card);
        switch (what) {
            case 0: return asked.year();
            case 1: return asked.words().size();
            case 2: return String.join("", asked.words()).length();
            case 3: return model.drawer.indexOf(card);
            case 4: return model.first(card);
            default: return Check.NO_SUCH;
        }
    }

    private long offAnswer(int clerk, int card) {
        int place = model.drawer.indexOf(card);
        return place < 0 ? -99 : place - model.filed(model.drawer, clerk).indexOf(card);
    }

    private void keyStands(int clerk, int card) {
        if (!isClerk(clerk) || !isCard(card)) {
            due("key " + clerk + " " + card, Check.NO_SUCH, () -> x.key(clerk, card, -1));
            return;
        }
        String key = Model.key(model.clerks.get(clerk), model.cards.get(card));
        due("key " + clerk + " " + card, key.length(), () -> x.key(clerk, card, -1));
        int i = some(key.length());
        long sign = i == -1 ? key.length() : i < 0 || i >= key.length() ? Check.NO_SUCH : key.charAt(i) == ' ' ? 0 : key.charAt(i) - 96;
        due("key " + clerk + " " + card + " " + i, sign, () -> x.key(clerk, card, i));
    }

    private void askOfClerks() {
        int clerk = some(model.clerks.size());
        int other = some(model.clerks.size());
        int what = some(2);
        int thing = some(7);
        boolean both = isClerk(clerk) && isClerk(other);
        due("clerk " + clerk + " " + thing, isClerk(clerk) ? clerkAnswer(clerk, thing) : Check.NO_SUCH,
                () -> x.clerk(clerk, thing));
        due("differ " + clerk + " " + other + " " + what, both ? differAnswer(clerk, other, what) : Check.NO_SUCH,
                () -> x.differ(clerk, other, what));
        int rule = some(9) - 3;
        boolean isRule = isClerk(clerk) && rule >= -3 && rule < model.clerks.get(clerk).rules.size();
        due("matters " + clerk + " " + rule, isRule ? model.matters(clerk, rule) : Check.NO_SUCH, () -> x.matters(clerk, rule));
        int much = some(random.nextBoolean() ? 100 : 12);
        boolean plays = clerk != other && much >= 0 && much <= 99;
        due("game " + clerk + " " + other + " " + much + " " + what, !both || !isTwo(what) ? Check.NO_SUCH
                : plays ? model.game(clerk, other, much, what) : Check.ILLEGAL, () -> x.game(clerk, other, much, what));
        due("worst " + clerk + " " + what, isClerk(clerk) && isTwo(what) ? model.worst(clerk, what) : Check.NO_SUCH,
                () -> x.worst(clerk, what));
        due("closest " + what, isTwo(what) ? model.closest(what) : Check.NO_SUCH, () -> x.closest(what));
    }

    private long clerkAnswer(int clerk, int what) {
        Model.Clerk asked = model.clerks.get(clerk);
        switch (what) {
            case 0: return asked.rules.size();
            case 1: return asked.turn ? 1 : 0;
            case 2: return asked.join ? 1 : 0;
            case 3: return asked.tie == null ? 0 : 1;
            case 4: return model.wrong(model.drawer, clerk);
            case 5: return model.drawer.size() - model.longestStay(clerk).size();
            case 6: return model.mostLooks(clerk);
            default: return Check.NO_SUCH;
        }
    }

    private long differAnswer(int clerk, int other, int what) {
        List<Integer> apart = model.apart(model.clerks.get(clerk), model.clerks.get(other), model.all());
        if (what == 0) {
            return apart.size();
        }
        return what != 1 ? Check.NO_SUCH : apart.isEmpty() ? -1 : apart.get(0);
    }

    private void askOfDrawer() {
        int clerk = some(model.clerks.size());
        int card = some(model.cards.size());
        int what = some(2);
        boolean fine = isClerk(clerk) && isCard(card) && isTwo(what);
        due("search " + clerk + " " + card + " " + what, !fine ? Check.NO_SUCH
                : what == 0 ? model.looks(model.drawer, clerk, card).size() : model.found(model.drawer, clerk, card) ? 1 : 0,
                () -> x.search(clerk, card, what));
        due("could", model.could(), x::could);
        due("explained", model.explained(), x::explained);
        due("telling " + what, isTwo(what) ? model.telling(what) : Check.NO_SUCH, () -> x.telling(what));
        due("sees", model.sees(), x::sees);
        int many = 1 + some(10);
        int tray = some(5) - 1;
        due("trays " + clerk + " " + many + " " + tray, trayAnswer(clerk, many, tray), () -> x.trays(clerk, many, tray));
        int seed = random.nextInt();
        int n = some(61);
        int end = some(3);
        due("years " + seed + " " + n + " " + end, end < 0 || end > 2 ? Check.NO_SUCH : n < 0 || n > 60 ? Check.ILLEGAL
                : model.years(seed, n, end), () -> x.years(seed, n, end));
    }

    private long trayAnswer(int clerk, int many, int tray) {
        if (!isClerk(clerk)) {
            return Check.NO_SUCH;
        }
        if (many < 1 || many > 10) {
            return Check.ILLEGAL;
        }
        int trays = model.trayCount(many);
        if (tray == -1) {
            return trays;
        }
        return tray < 0 || tray >= trays ? Check.NO_SUCH : model.guide(clerk, many, tray);
    }

    private void askOfStay() {
        if (random.nextInt(3) == 0) {
            int clerk = some(model.clerks.size());
            due("stay " + clerk, isClerk(clerk) ? model.stay(clerk) : Check.NO_SUCH, () -> x.stay(clerk));
        }
        int i = some(5);
        boolean kept = model.stay != null && i >= 0 && i < model.stay.size();
        due("stays " + i, kept ? model.stay.get(i) : Check.NO_SUCH, () -> x.stays(i));
    }

    private void askOfAll() {
        int i = some(model.cards.size() + 1) - 1;
        due("compromise " + i, i < -1 || i >= model.cards.size() ? Check.NO_SUCH : model.compromise(i), () -> x.compromise(i));
        due("agreed", model.agreed(), x::agreed);
        due("ring", model.ring(), x::ring);
        due("head", model.head(), x::head);
        due("fault", -1, x::fault);
    }

    private void go(int mostCalls) {
        while (calls < mostCalls && CHECK.isClean()) {
            if (random.nextInt(12) == 0) {
                askOfAll();
            }
            switch (random.nextInt(8)) {
                case 0: askOfCards(); break;
                case 1: askOfClerks(); break;
                case 2: askOfDrawer(); break;
                case 3: askOfStay(); break;
                default: act();
            }
        }
    }

    public static void main(String[] args) {
        int runs = args.length > 0 ? Integer.parseInt(args[0]) : 1000;
        for (int seed = 1; seed <= runs && CHECK.isClean(); seed++) {
            RandomRunTest test = new RandomRunTest(seed);
            test.go(20);
            for (int text = 1; text <= 2; text++) {
                test.tell();
                test.go(MOST_CALLS * text / 2);
            }
        }
        CHECK.end();
    }
}
