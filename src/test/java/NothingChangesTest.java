import java.util.ArrayList;
import java.util.List;

/**
 * Twins are made by the same calls, and one of them gets a call more. Behind a call that throws, that is refused
 * or that only asks, both answer alike, but for what the document says changes.
 */
public final class NothingChangesTest {
    private static final Check CHECK = new Check();
    private static final int MIN = Integer.MIN_VALUE;
    private static final int MAX = Integer.MAX_VALUE;

    private interface Making {
        MeerDrawers make();
    }

    private interface Asking {
        long ask(MeerDrawers x);
    }

    /** Calls with what is due; each is made on a twin of its own. */
    private record Case(String name, long due, Asking call) { }

    private static final class Cases {
        private final List<Case> all = new ArrayList<>();

        void due(String name, long due, Asking call) {
            all.add(new Case(name, due, call));
        }

        void noSuch(String name, Asking call) {
            due(name, Check.NO_SUCH, call);
        }

        void illegal(String name, Asking call) {
            due(name, Check.ILLEGAL, call);
        }
    }

    private static void leaveAll(String state, Making making, Cases cases) {
        leaveAllBut(state, making, cases);
    }

    /** Some lines of the answers are others then. */
    private static void leaveAllBut(String state, Making making, Cases cases, String... lines) {
        for (int part = 0; part < Answers.PARTS; part++) {
            List<String> due = changed(Answers.of(making.make(), part), lines);
            for (Case one : cases.all) {
                MeerDrawers x = making.make();
                CHECK.due(state + ": " + one.name(), one.due(), () -> one.call().ask(x));
                alike(state + ": behind " + one.name(), due, Answers.of(x, part));
            }
        }
    }

    private static List<String> changed(List<String> answers, String... lines) {
        List<String> changed = new ArrayList<>();
        for (String answer : answers) {
            String now = answer;
            for (String line : lines) {
                String call = line.substring(0, line.lastIndexOf(' ') + 1);
                now = now.startsWith(call) ? line : now;
            }
            changed.add(now);
        }
        return changed;
    }

    private static void alike(String name, List<String> due, List<String> got) {
        for (int i = 0; i < Math.max(due.size(), got.size()); i++) {
            String want = i < due.size() ? due.get(i) : "nothing";
            String is = i < got.size() ? got.get(i) : "nothing";
            if (!want.equals(is)) {
                CHECK.holds(name + " due is: " + want + ", answered: " + is, false);
                return;
            }
        }
    }

    // ---- States ----

    private static final String FOUR = "card 9 b;card 3 a c;card 3 ab;card 4 b;clerk;turn;clerk;skip a;join;tie 0-number;"
            + "clerk;fold b a;spell ab c;";

    /** Three of four cards in the drawer, acts, a kept row, another image, a half-read tape, refused calls. */
    private static MeerDrawers busy() {
        MeerDrawers x = withoutTape();
        Check.tell(x, "clerk;oops");
        x.feed(0x636c6572, 0x6b3b636c, 0x65726b3b, 0x20202020, 0x20202020);
        return x;
    }

    private static MeerDrawers empty() {
        return Check.told(FOUR);
    }

    /** Every bound at once: ten cards in the drawer, four clerks, forty acts, a full tape. */
    private static MeerDrawers full() {
        MeerDrawers x = Check.told(Drawers.TEN + Drawers.FORTH + Drawers.BACK + "clerk;"
                + "skip b;skip c;skip d;skip e;skip f;skip g;skip h;skip i;clerk;turn;join;tie 1;");
        Drawers.actSoOften(x, 0, 32);
        for (int card = 0; card < 10; card++) {
            x.put(card, card % 4);
        }
        for (int i = 0; i < 35; i++) {
            x.feed(0x20202020, 0x20202020, 0x20202020, 0x20202020, 0x20202020);
        }
        return x;
    }

    // ---- Calls that throw ----

    private static Cases throwing(int cards, int clerks, int size, int tape) {
        Cases cases = new Cases();
        for (int n : new int[] {-1, tape + 1, MIN, MAX}) {
            cases.illegal("catalogue " + n, x -> x.catalogue(n));
        }
        for (int what : new int[] {-1, 8, MIN, MAX}) {
            cases.noSuch("count " + what, x -> x.count(what));
        }
        for (int card : new int[] {-1, cards, MIN, MAX}) {
            cases.noSuch("card " + card, x -> x.card(card, 0));
            cases.noSuch("key of " + card, x -> x.key(0, card, 0));
            cases.noSuch("before of " + card, x -> x.before(0, card, 0) ? 1 : 0);
            cases.noSuch("before " + card, x -> x.before(0, 0, card) ? 1 : 0);
            cases.noSuch("rank of " + card, x -> x.rank(0, card));
            cases.noSuch("at " + card, x -> x.at(0, card));
            cases.noSuch("put " + card, x -> x.put(card, 0));
            cases.noSuch("take " + card, x -> x.take(card));
            cases.noSuch("move " + card, x -> x.move(card, 0));
            cases.noSuch("votes " + card, x -> x.votes(card, 0));
            cases.noSuch("votes other " + card, x -> x.votes(0, card));
            cases.noSuch("search for " + card, x -> x.search(0, card, 0));
            cases.noSuch("reader of " + card, x -> x.reader(0, card, 0));
            cases.noSuch("off of " + card, x -> x.off(0, card));
        }
        for (int clerk : new int[] {-1, clerks, MIN, MAX}) {
            byNoClerk(cases, clerk);
        }
        for (int place : new int[] {-1, size, MIN, MAX}) {
            cases.noSuch("drawer " + place, x -> x.drawer(place));
        }
        withNoWhat(cases);
        cases.noSuch("compromise " + cards, x -> x.compromise(cards));
        cases.noSuch("compromise -2", x -> x.compromise(-2));
        cases.noSuch("stays -1", x -> x.stays(-1));
        cases.noSuch("stays 10", x -> x.stays(10));
        return cases;
    }

    private static void byNoClerk(Cases cases, int clerk) {
        cases.noSuch("clerk " + clerk, x -> x.clerk(clerk, 0));
        cases.noSuch("key by " + clerk, x -> x.key(clerk, 0, 0));
        cases.noSuch("before by " + clerk, x -> x.before(clerk, 0, 1) ? 1 : 0);
        cases.noSuch("rank by " + clerk, x -> x.rank(clerk, 0));
        cases.noSuch("at by " + clerk, x -> x.at(clerk, 0));
        cases.noSuch("put by " + clerk, x -> x.put(0, clerk));
        cases.noSuch("put of another by " + clerk, x -> x.put(3, clerk));
        cases.noSuch("file by " + clerk, x -> x.file(clerk));
        cases.noSuch("differ " + clerk, x -> x.differ(clerk, 0, 0));
        cases.noSuch("differ other " + clerk, x -> x.differ(0, clerk, 0));
        cases.noSuch("stay by " + clerk, x -> x.stay(clerk));
        cases.noSuch("search by " + clerk, x -> x.search(clerk, 0, 0));
        cases.noSuch("matters of " + clerk, x -> x.matters(clerk, -1));
        cases.noSuch("reader by " + clerk, x -> x.reader(clerk, 0, 10));
        cases.noSuch("game of " + clerk, x -> x.game(clerk, 0, 100, 0));
        cases.noSuch("game with " + clerk, x -> x.game(0, clerk, 100, 0));
        cases.noSuch("off by " + clerk, x -> x.off(clerk, 0));
        cases.noSuch("worst by " + clerk, x -> x.worst(clerk, 0));
        cases.noSuch("trays by " + clerk, x -> x.trays(clerk, 11, 0));
    }

    private static void withNoWhat(Cases cases) {
        for (int what : new int[] {-2, 36, MIN, MAX}) {
            cases.noSuch("card what " + what, x -> x.card(0, what));
            cases.noSuch("clerk what " + what, x -> x.clerk(0, what));
            cases.noSuch("key at " + what, x -> x.key(0, 0, what));
            cases.noSuch("differ what " + what, x -> x.differ(0, 1, what));
            cases.noSuch("search what " + what, x -> x.search(0, 0, what));
            cases.noSuch("telling what " + what, x -> x.telling(what));
            cases.noSuch("game what " + what, x -> x.game(0, 1, 100, what));
            cases.noSuch("years what " + what, x -> x.years(1, 61, what));
            cases.noSuch("closest what " + what, x -> x.closest(what));
            cases.noSuch("worst what " + what, x -> x.worst(0, what));
            cases.noSuch("trays at " + what, x -> x.trays(0, 1, what));
            cases.illegal("reader letters " + what, x -> x.reader(0, 0, what));
            cases.illegal("trays of " + what, x -> x.trays(0, what, what));
        }
        for (int i : new int[] {-4, 8, MIN, MAX}) {
            cases.noSuch("matters " + i, x -> x.matters(0, i));
        }
        for (int much : new int[] {-1, 100, MIN, MAX}) {
            cases.illegal("game much " + much, x -> x.game(0, 1, much, 0));
        }
        cases.illegal("game of one", x -> x.game(1, 1, 5, 0));
        for (int n : new int[] {-1, 61, MIN, MAX}) {
            cases.illegal("years " + n, x -> x.years(1, n, 0));
        }
    }

    // ---- Calls that only ask ----

    private static Cases asking(MeerDrawers told) {
        Cases cases = new Cases();
        for (int clerk = 0; clerk < told.count(1); clerk++) {
            int k = clerk;
            for (int what = 0; what < 7; what++) {
                int w = what;
                same(cases, told, "clerk " + k + " " + w, x -> x.clerk(k, w));
            }
            for (int i = -3; i < told.clerk(k, 0); i++) {
                int rule = i;
                same(cases, told, "matters " + k + " " + rule, x -> x.matters(k, rule));
            }
            for (int many : new int[] {1, 2, 10}) {
                same(cases, told, "trays " + k + " " + many, x -> x.trays(k, many, -1));
            }
            for (int what = 0; what < 2; what++) {
                int w = what;
                int other = k == 0 ? 1 : 0;
                same(cases, told, "game " + k + " " + w, x -> x.game(k, other, 3, w));
                same(cases, told, "differ " + k + " " + w, x -> x.differ(k, other, w));
                same(cases, told, "worst " + k + " " + w, x -> x.worst(k, w));
            }
            same(cases, told, "at " + k, x -> x.at(k, 1));
            same(cases, told, "off " + k, x -> x.off(k, 1));
            same(cases, told, "search " + k, x -> x.search(k, 1, 0));
            same(cases, told, "reader " + k, x -> x.reader(k, 1, 9));
        }
        for (int n : new int[] {0, 1, 60}) {
            for (int what = 0; what < 3; what++) {
                int w = what;
                same(cases, told, "years " + n + " " + w, x -> x.years(-5, n, w));
            }
        }
        same(cases, told, "compromise", x -> x.compromise(0));
        same(cases, told, "telling", x -> x.telling(0));
        same(cases, told, "votes", x -> x.votes(0, 1));
        return cases;
    }

    /** What is due is the answer itself: it must not hang on what else was asked of the object. */
    private static void same(Cases cases, MeerDrawers told, String name, Asking call) {
        cases.due(name, call.ask(told), call);
    }

    // ---- Calls that are refused ----

    private static void refusedActs() {
        Cases busy = new Cases();
        busy.due("put what is in it", -1, x -> x.put(2, 0));
        busy.due("put what is in it by another", -1, x -> x.put(1, 2));
        busy.due("take what is out", -1, x -> x.take(3));
        busy.due("move what is out", -1, x -> x.move(3, 0));
        busy.due("move what is out to no place", -1, x -> x.move(3, 3));
        for (int place : new int[] {-1, 3, 4, MIN, MAX}) {
            busy.due("move to " + place, -1, x -> x.move(0, place));
        }
        leaveAllBut("busy", NothingChangesTest::busy, busy, "count 7 2");
        Cases empty = new Cases();
        empty.due("take of an empty drawer", -1, x -> x.take(0));
        empty.due("move in an empty drawer", -1, x -> x.move(0, 0));
        leaveAllBut("empty", NothingChangesTest::empty, empty, "count 7 1");
        Cases full = new Cases();
        for (int card = 0; card < 10; card++) {
            int c = card;
            full.due("put " + c + " into a full drawer", -1, x -> x.put(c, 1));
            full.due("move " + c + " beyond a full drawer", -1, x -> x.move(c, 10));
        }
        leaveAllBut("full", NothingChangesTest::full, full, "count 7 1");
    }

    private static void refusedWithoutStatus() {
        Cases empty = new Cases();
        empty.due("undo nothing", -1, MeerDrawers::undo);
        empty.due("restore nothing", 0, x -> x.restore() ? 1 : 0);
        leaveAll("empty", NothingChangesTest::empty, empty);
        leaveAll("new", MeerDrawers::new, empty);
        Cases full = new Cases();
        full.due("feed a full tape", -1, x -> x.feed(MIN, MAX, 0, 1, -1));
        full.due("restore nothing", 0, x -> x.restore() ? 1 : 0);
        leaveAll("full", NothingChangesTest::full, full);
    }

    /** "0, or the FAULT (all stays)": but the tape is empty, and the place and the status are told. */
    private static void refusedTexts() {
        String[] texts = {"clerk", "card 1000 a;", "clerk;tie oops;", "clerk;skip a;skip a;", "clerk;turn;turn;",
            "card 0 a;".repeat(11), "clerk;turn;join;tie 1;skip a;".repeat(5)};
        int[] faults = {1, 2, 3, 4, 5, 2, 2};
        int[] places = {5, 5, 10, 18, 11, 90, 116};
        for (int i = 0; i < texts.length; i++) {
            refusedText(texts[i], faults[i], places[i]);
        }
    }

    private static void refusedText(String text, int fault, int place) {
        for (int part = 0; part < Answers.PARTS; part++) {
            MeerDrawers y = withoutTape();
            List<String> due = changed(Answers.of(y, part), "fault " + place, "count 6 1");
            MeerDrawers x = withoutTape();
            CHECK.due("text " + text, fault, () -> Check.tell(x, text));
            alike("behind " + text, due, Answers.of(x, part));
        }
    }

    /** As busy, but the tape is empty and no text was refused yet. */
    private static MeerDrawers withoutTape() {
        MeerDrawers x = Check.told(FOUR);
        x.put(0, 0);
        x.put(1, 1);
        x.stay(0);
        x.image();
        x.put(2, 2);
        x.move(0, 2);
        x.put(0, 0);
        return x;
    }

    private static void throwsLeaveAll() {
        leaveAll("busy", NothingChangesTest::busy, throwing(4, 3, 3, 20));
        leaveAll("empty", NothingChangesTest::empty, throwing(4, 3, 0, 0));
        leaveAll("full", NothingChangesTest::full, throwing(10, 4, 10, 700));
    }

    private static void asksLeaveAll() {
        leaveAll("busy", NothingChangesTest::busy, asking(busy()));
        leaveAll("empty", NothingChangesTest::empty, asking(empty()));
        leaveAll("full", NothingChangesTest::full, asking(full()));
    }

    /** An image takes the place of another one, and what is acted behind it is gone with a restore. */
    private static void imageAndRestore() {
        for (int part = 0; part < Answers.PARTS - 1; part++) {
            List<String> due = Answers.of(busy(), part);
            MeerDrawers x = busy();
            x.image();
            x.put(3, 0);
            x.file(1);
            CHECK.due("restore", 1, () -> x.restore() ? 1 : 0);
            alike("behind image, acts, restore", due, Answers.of(x, part));
        }
    }

    /** "the row is kept": and nothing else is changed by it. */
    private static void stayChangesTheRowAlone() {
        for (int clerk = 0; clerk < 3; clerk++) {
            for (int part = 0; part < Answers.PARTS; part++) {
                List<String> due = Answers.of(busy(), part);
                MeerDrawers x = busy();
                x.stay(clerk);
                List<String> got = Answers.of(x, part);
                due.removeIf(line -> line.startsWith("stays "));
                got.removeIf(line -> line.startsWith("stays "));
                alike("behind stay " + clerk, due, got);
            }
        }
    }

    public static void main(String[] args) {
        throwsLeaveAll();
        asksLeaveAll();
        imageAndRestore();
        stayChangesTheRowAlone();
        refusedActs();
        refusedWithoutStatus();
        refusedTexts();
        CHECK.end();
    }
}
