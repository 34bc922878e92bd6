import java.math.BigInteger;

/** Promises 18 to 38 at their edges: what is asked of clerks, cards and the drawer. */
public final class QuestionBoundsTest {
    private static final Check CHECK = new Check();

    private static final String TEN = Drawers.TEN;
    private static final String FORTH = Drawers.FORTH;
    private static final String BACK = Drawers.BACK;

    private static void due(String call, long want, Check.Call made) {
        CHECK.due(call, want, made);
    }

    private static void noSuch(String call, Check.Call made) {
        CHECK.noSuch(call, made);
    }

    /** Clerks who file ten cards by a number that each card has. */
    private static String tied(String... ties) {
        StringBuilder clerks = new StringBuilder();
        for (String tie : ties) {
            clerks.append("clerk;tie ").append(tie).append(';');
        }
        return clerks.toString();
    }

    private static MeerDrawers full(String clerks) {
        return Drawers.standing(TEN + clerks, Drawers.upTo(10));
    }

    // ---- Promise 18 ----

    private static void differs(String text, int couples, int first) {
        MeerDrawers x = Check.told(text);
        due("differ of " + text, couples, () -> x.differ(0, 1, 0));
        due("differ turned about of " + text, couples, () -> x.differ(1, 0, 0));
        due("the first of " + text, first, () -> x.differ(0, 1, 1));
        due("the first turned about of " + text, first, () -> x.differ(1, 0, 1));
        due("of one and himself: " + text, 0, () -> x.differ(1, 1, 0));
        due("the first of one and himself: " + text, -1, () -> x.differ(1, 1, 1));
    }

    private static void promise18() {
        differs(FORTH + BACK, 0, -1);
        differs("card 0 a;" + FORTH + BACK, 0, -1);
        differs("card 0 a;card 0 a;" + FORTH + BACK, 1, 1);
        differs(TEN + FORTH + FORTH, 0, -1);
        differs(TEN + FORTH + BACK, 45, 1);
        differs(TEN + FORTH + tied("number+2*(number=8)"), 1, 89);
        differs(TEN + FORTH + tied("number-9*(number=9)"), 8, 19);
        MeerDrawers x = Check.told(TEN + FORTH + BACK);
        for (int other : Drawers.outside(2)) {
            noSuch("differ " + other, () -> x.differ(other, 0, 0));
            noSuch("differ of other " + other, () -> x.differ(0, other, 0));
            noSuch("differ what " + other, () -> x.differ(0, 1, other));
        }
    }

    // ---- Promises 19 to 21 ----

    private static void promise19() {
        String[] clerks = {"", FORTH, FORTH + BACK, FORTH + FORTH + BACK, FORTH + FORTH + BACK + BACK,
            FORTH + FORTH + FORTH + BACK, FORTH.repeat(4), BACK.repeat(4)};
        int[] votes = {0, 1, 0, 1, 0, 2, 4, -4};
        for (int i = 0; i < clerks.length; i++) {
            MeerDrawers x = Check.told(TEN + clerks[i]);
            int want = votes[i];
            due("votes by " + clerks[i], want, () -> x.votes(0, 9));
            due("votes turned about by " + clerks[i], -want, () -> x.votes(9, 0));
            due("votes of itself by " + clerks[i], 0, () -> x.votes(9, 9));
            for (int other : Drawers.outside(10)) {
                noSuch("votes of " + other, () -> x.votes(other, 0));
                noSuch("votes of other " + other, () -> x.votes(0, other));
                noSuch("votes of " + other + " and itself", () -> x.votes(other, other));
            }
        }
    }

    private static void promise20() {
        String rotated = tied("number+10*(number=0)", "number-10*(number=9)");
        due("no cards", -1, () -> Check.told(FORTH + rotated).ring());
        due("two cards", -1, () -> Check.told("card 0 a;card 0 a;" + FORTH + BACK + FORTH).ring());
        due("three cards, no clerks", -1, () -> Check.told("card 0 a;".repeat(3)).ring());
        due("three cards, one clerk", -1, () -> Check.told("card 0 a;".repeat(3) + FORTH).ring());
        due("three cards, two clerks", -1, () -> Check.told("card 0 a;".repeat(3) + FORTH + BACK).ring());
        due("0 1 2", 12, () -> Check.told("card 0 a;".repeat(3) + FORTH
                + tied("number+3*(number=0)", "number-3*(number=2)")).ring());
        due("0 2 1", 21, () -> Check.told("card 0 a;".repeat(3) + BACK
                + tied("0-number-3*(number=0)", "3*(number=2)-number")).ring());
        due("the last three", 789, () -> Check.told(TEN + FORTH
                + tied("number+3*(number=7)", "number-3*(number=9)")).ring());
        due("the last three, the other way", 798, () -> Check.told(TEN + BACK
                + tied("number+2*(number=8)", "number-2*(number=8)")).ring());
        due("the first of many", 19, () -> Check.told(TEN + FORTH + rotated).ring());
        due("a fourth clerk makes it even", -1, () -> Check.told("card 0 a;".repeat(3) + FORTH + BACK
                + tied("number+3*(number=0)", "number-3*(number=2)")).ring());
    }

    private static void promise21() {
        due("no cards", -1, () -> Check.told(FORTH).head());
        due("one card", 0, () -> Check.told("card 0 a;" + FORTH).head());
        due("one card, even clerks", 0, () -> Check.told("card 0 a;" + FORTH + BACK).head());
        due("ten cards, no clerks", -1, () -> Check.told(TEN).head());
        due("the first", 0, () -> Check.told(TEN + FORTH).head());
        due("the last", 9, () -> Check.told(TEN + BACK).head());
        due("two to one", 9, () -> Check.told(TEN + FORTH + BACK + BACK).head());
        due("two to two", -1, () -> Check.told(TEN + FORTH + FORTH + BACK + BACK).head());
        due("even against the last alone", -1,
                () -> Check.told(TEN + FORTH + tied("number-10*(number=9)")).head());
        due("even among others", 0, () -> Check.told(TEN + FORTH + tied("0-number-20*(number=0)")).head());
    }

    // ---- Promises 22 and 23 ----

    private static void stayIs(MeerDrawers x, int clerk, int... row) {
        due("stay", row.length, () -> x.stay(clerk));
        for (int i = 0; i < row.length; i++) {
            int at = i;
            due("stays " + at, row[at], () -> x.stays(at));
        }
        for (int i : Drawers.outside(row.length)) {
            noSuch("stays " + i, () -> x.stays(i));
        }
    }

    private static void promises22And23() {
        MeerDrawers x = Check.told(TEN + FORTH + BACK);
        for (int i : Drawers.outside(0)) {
            noSuch("none is kept: stays " + i, () -> x.stays(i));
        }
        stayIs(x, 0);
        x.put(4, 0);
        noSuch("the kept row is still empty", () -> x.stays(0));
        stayIs(x, 1, 4);
        MeerDrawers full = full(FORTH + BACK);
        stayIs(full, 0, Drawers.upTo(10));
        stayIs(full, 1, 0);
        for (int clerk : Drawers.outside(2)) {
            noSuch("stay by " + clerk, () -> full.stay(clerk));
        }
        due("the row is kept behind that", 0, () -> full.stays(0));
        noSuch("as long as it was", () -> full.stays(1));
        stayIs(full, 0, Drawers.upTo(10));
        full.file(1);
        due("the row is kept behind an act", 9, () -> full.stays(9));
        full.undo();
        due("a fault", 1, () -> Check.tell(full, "clerk"));
        due("the row is kept behind a fault", 9, () -> full.stays(9));
        due("no fault", 0, () -> Check.tell(full, TEN + FORTH));
        noSuch("the row is gone", () -> full.stays(0));
        stayIs(Drawers.standing(TEN + FORTH, 9, 0, 1), 0, 0, 1);
        stayIs(Drawers.standing(TEN + FORTH, 5, 9, 0, 1, 6), 0, 0, 1, 6);
        stayIs(Drawers.standing(TEN + FORTH, 5, 9, 0, 6), 0, 5, 9);
        stayIs(Drawers.standing(TEN + FORTH, 1, 0, 3, 2, 5, 4, 7, 6, 9, 8), 0, 1, 3, 5, 7, 9);
        stayIs(Drawers.standing(TEN + FORTH, 3, 4, 9, 5, 0, 1, 2, 6), 0, 3, 4, 5, 6);
    }

    // ---- Promise 24 ----

    private static void promise24() {
        MeerDrawers empty = Check.told(TEN + FORTH);
        due("looks in an empty drawer", 0, () -> empty.search(0, 9, 0));
        due("found in an empty drawer", 0, () -> empty.search(0, 9, 1));
        MeerDrawers full = full(FORTH + BACK);
        int[][] looks = {{3, 2, 3, 4, 1, 3, 4, 2, 3, 4}, {4, 4, 4, 4, 1, 3, 3, 3, 3, 3}};
        for (int card = 0; card < 10; card++) {
            int c = card;
            due("looks for " + c, looks[0][c], () -> full.search(0, c, 0));
            due(c + " is found", 1, () -> full.search(0, c, 1));
            due("looks the wrong way for " + c, looks[1][c], () -> full.search(1, c, 0));
            due("found the wrong way " + c, c == 4 ? 1 : 0, () -> full.search(1, c, 1));
        }
        MeerDrawers x = Drawers.standing(TEN + FORTH, 5);
        due("the only one", 1, () -> x.search(0, 5, 0));
        due("it is found", 1, () -> x.search(0, 5, 1));
        due("one ahead", 1, () -> x.search(0, 0, 0));
        due("it is not found", 0, () -> x.search(0, 0, 1));
        due("one behind", 1, () -> x.search(0, 9, 0));
        due("it is not found either", 0, () -> x.search(0, 9, 1));
        MeerDrawers two = Drawers.standing(TEN + FORTH, 4, 6);
        due("of two he looks at the first", 1, () -> two.search(0, 4, 0));
        due("then at the second", 2, () -> two.search(0, 6, 0));
        for (int other : Drawers.outside(10)) {
            noSuch("search for " + other, () -> full.search(0, other, 0));
        }
        for (int other : Drawers.outside(2)) {
            noSuch("search by " + other, () -> full.search(other, 0, 0));
            noSuch("search what " + other, () -> full.search(0, 0, other));
        }
    }

    // ---- Promises 25 to 27 ----

    private static void promise25() {
        due("no clerks", 0, () -> Check.told(TEN).could());
        due("an empty drawer", 15, () -> Check.told(TEN + FORTH + BACK + FORTH + BACK).could());
        due("one card", 15, () -> Drawers.standing(TEN + FORTH + BACK + FORTH + BACK, 3).could());
        due("two cards", 5, () -> Drawers.standing(TEN + FORTH + BACK + FORTH + BACK, 3, 4).could());
        due("two cards turned about", 10, () -> Drawers.standing(TEN + FORTH + BACK + FORTH + BACK, 4, 3).could());
        due("three cards", 0, () -> Drawers.standing(TEN + FORTH + BACK + FORTH + BACK, 4, 3, 5).could());
        due("ten cards", 1, () -> full(FORTH + BACK).could());
        due("ten cards, but for the last two", 0,
                () -> Drawers.standing(TEN + FORTH + BACK, 0, 1, 2, 3, 4, 5, 6, 7, 9, 8).could());
        due("the last clerk alone", 8, () -> full(BACK.repeat(3) + FORTH).could());
    }

    private static void promise26() {
        due("an empty drawer", 0, () -> Check.told(TEN + FORTH).explained());
        due("one card", 0, () -> Drawers.standing(TEN + FORTH, 3).explained());
        due("the least of two who could", 1, () -> full(FORTH + FORTH).explained());
        due("the last clerk alone", 8, () -> full(BACK.repeat(3) + FORTH).explained());
        due("nobody", -1, () -> full(BACK).explained());
        due("nobody of four", -1, () -> full(BACK.repeat(4)).explained());
        // Each clerk would have all turned about, but for two cards side by side.
        String four = tied("0-2*number-3*(number=0)", "0-2*number-3*(number=1)", "0-2*number-3*(number=2)",
                "0-2*number-3*(number=3)");
        due("two cards", 1, () -> Drawers.standing(TEN + four, 0, 1).explained());
        due("the last two", 8, () -> Drawers.standing(TEN + four, 3, 4).explained());
        due("two of four", 12, () -> Drawers.standing(TEN + four, 2, 3, 4).explained());
        due("three of four", 14, () -> Drawers.standing(TEN + four, 1, 2, 3, 4).explained());
        due("all four", 15, () -> Drawers.standing(TEN + four, 0, 1, 2, 3, 4).explained());
        due("one couple too much", -1, () -> Drawers.standing(TEN + four, 0, 1, 2, 3, 4, 5).explained());
        due("of as few the least: 0 or 1 with 2 or 3", 5, () -> Drawers.standing(TEN + tied("0-2*number-3*(number=0)",
                "0-2*number-3*(number=0)", "0-2*number-3*(number=1)", "0-2*number-3*(number=1)"), 0, 1, 2).explained());
        due("the fewest, not the least", 4, () -> Drawers.standing("card 0 a;".repeat(3)
                + tied("0-2*number-3*(number=0)", "0-2*number-3*(number=1)", "number"), 0, 1, 2).explained());
    }

    private static void promise27() {
        due("no cards", -1, () -> Check.told(FORTH).telling(0));
        due("no cards", 0, () -> Check.told(FORTH).telling(1));
        due("no clerks", 0, () -> Check.told(TEN).telling(0));
        due("no clerks", 0, () -> Check.told(TEN).telling(1));
        due("an empty drawer: all alike, the least", 0, () -> Check.told(TEN + FORTH + BACK).telling(0));
        due("an empty drawer: one place", 1, () -> Check.told(TEN + FORTH + BACK).telling(1));
        MeerDrawers full = full(FORTH + BACK);
        due("all are in it", -1, () -> full.telling(0));
        due("all are in it", 0, () -> full.telling(1));
        for (int what : Drawers.outside(2)) {
            noSuch("telling " + what, () -> full.telling(what));
        }
        full.take(9);
        due("the only one that is out", 9, () -> full.telling(0));
        due("to both ends", 2, () -> full.telling(1));
        // Clerk k puts the last card behind k others.
        String places = tied("2*number-19*(number=9)", "2*number-17*(number=9)", "2*number-15*(number=9)",
                "2*number-13*(number=9)");
        MeerDrawers x = Drawers.standing(TEN + places, 0, 1, 2);
        due("four unlike places", 4, () -> x.telling(1));
        due("by the last card", 9, () -> x.telling(0));
        x.put(9, 0);
        due("one place", 1, () -> x.telling(1));
        due("the least that is out", 3, () -> x.telling(0));
        MeerDrawers y = Drawers.standing(TEN + FORTH + BACK, 5);
        due("like ones, the least", 0, () -> y.telling(0));
        due("two places", 2, () -> y.telling(1));
    }

    // ---- Promise 28 ----

    private static void promise28() {
        MeerDrawers bare = Check.told(TEN + FORTH);
        due("turn", 0, () -> bare.matters(0, -1));
        due("join", 0, () -> bare.matters(0, -2));
        due("no tie", 0, () -> bare.matters(0, -3));
        for (int i : new int[] {-4, -5, 0, 1, 8, Integer.MIN_VALUE, Integer.MAX_VALUE}) {
            noSuch("a clerk without rules, " + i, () -> bare.matters(0, i));
        }
        for (int clerk : Drawers.outside(1)) {
            noSuch("no clerk " + clerk, () -> bare.matters(clerk, -1));
            noSuch("no clerk " + clerk + ", no rule", () -> bare.matters(clerk, 99));
        }
        due("the tie of ten cards", 45, () -> Check.told(TEN + BACK).matters(0, -3));
        StringBuilder turned = new StringBuilder();
        for (int i = 0; i < 10; i++) {
            turned.append("card 0 ").append((char) ('a' + i)).append(' ').append((char) ('j' - i)).append(';');
        }
        due("turning ten cards", 45, () -> Check.told(turned + "clerk;").matters(0, -1));
        due("not turning ten cards", 45, () -> Check.told(turned + "clerk;turn;").matters(0, -1));
        due("without cards", 0, () -> Check.told("clerk;skip a;turn;join;tie 1;").matters(0, 0));
        due("of one card", 0, () -> Check.told("card 0 a b;clerk;skip a;turn;join;tie 1;").matters(0, 0));
        // Blank by blank a b goes before aa, joined it is ab behind it.
        due("joining", 1, () -> Check.told("card 0 a b;card 0 aa;clerk;").matters(0, -2));
        due("not joining", 1, () -> Check.told("card 0 a b;card 0 aa;clerk;join;").matters(0, -2));
        eightRules();
        eachKindOfRule();
    }

    private static void eightRules() {
        MeerDrawers x = Check.told("card 0 a;card 0 h;card 0 m;clerk;fold a z;skip x;skip y;skip z;spell x y;spell y x;"
                + "fold b c;fold h y;turn;join;tie 1;");
        due("the first: a m, not m z", 2, () -> x.matters(0, 0));
        for (int i = 1; i < 7; i++) {
            int rule = i;
            due("rule " + rule, 0, () -> x.matters(0, rule));
        }
        due("the last: h ahead of m, not behind", 1, () -> x.matters(0, 7));
        noSuch("a ninth", () -> x.matters(0, 8));
        noSuch("below the tie", () -> x.matters(0, -4));
        due("nothing has changed: m, h as y, a as z", 2, () -> x.at(0, 0));
        due("nothing has changed", 1, () -> x.at(0, 1));
        due("nothing has changed", 0, () -> x.at(0, 2));
    }

    private static void eachKindOfRule() {
        MeerDrawers x = Check.told("card 0 the b;card 0 c;card 0 st;card 0 d;"
                + "clerk;skip the;spell st a;fold d a;");
        // b, c, a, a by 0: a (2), a (3), b (0), c (1).
        due("skip: the b goes behind c", 1, () -> x.matters(0, 0));
        due("spell: st goes behind b, c and d as a", 3, () -> x.matters(0, 1));
        due("fold: d goes behind b and c", 2, () -> x.matters(0, 2));
        noSuch("a fourth", () -> x.matters(0, 3));
    }

    // ---- Promises 29 and 30 ----

    private static void promise29() {
        String back = "tie 0-number;";
        due("an empty drawer", 0, () -> Check.told(TEN + FORTH + BACK).sees());
        due("one card", 0, () -> Drawers.standing(TEN + FORTH + BACK, 3).sees());
        due("all are found", 0, () -> full(FORTH.repeat(4)).sees());
        due("all but one are missed", 9, () -> full(FORTH + BACK).sees());
        due("by two under one key", 9, () -> full(FORTH + BACK + BACK).sees());
        due("by four under one key", 9, () -> full(BACK.repeat(4)).sees());
        due("by two under two keys", 18, () -> full(BACK + "clerk;fold a b;" + back).sees());
        due("by three under two keys, the first and the last alike", 18,
                () -> full(BACK + "clerk;fold a b;" + back + BACK).sees());
        due("by four under four keys", 36, () -> full(BACK + "clerk;fold a b;" + back + "clerk;fold a c;" + back
                + "clerk;spell a aa;" + back).sees());
        due("who finds it needs none, though he has another key", 9, () -> full(BACK + "clerk;fold a b;").sees());
        due("only of cards in it", 1, () -> Drawers.standing(TEN + FORTH + BACK, 3, 4).sees());
    }

    private static void promise30() {
        MeerDrawers x = Check.told("card 0 abcdefgh i;card 0 abcdefgh j;card 0 abcdefgh;card 0 b;clerk;clerk;join;");
        due("0 letters", 15, () -> x.reader(0, 3, 0));
        due("1 letter", 8, () -> x.reader(0, 3, 1));
        due("more than it has", 8, () -> x.reader(0, 3, 9));
        due("8 letters", 7, () -> x.reader(0, 0, 8));
        due("9, the blank being one", 3, () -> x.reader(0, 0, 9));
        due("8, joined", 7, () -> x.reader(1, 0, 8));
        due("9, joined", 1, () -> x.reader(1, 0, 9));
        due("all of a shorter one, joined", 7, () -> x.reader(1, 2, 9));
        for (int letters : new int[] {-1, -2, 10, 11, Integer.MIN_VALUE, Integer.MAX_VALUE}) {
            CHECK.illegal(letters + " letters", () -> x.reader(0, 0, letters));
            noSuch(letters + " letters, no such card", () -> x.reader(0, 4, letters));
            noSuch(letters + " letters, no such clerk", () -> x.reader(2, 0, letters));
        }
        for (int other : Drawers.outside(4)) {
            noSuch("reader of " + other, () -> x.reader(0, other, 0));
            noSuch("reader by " + other, () -> x.reader(other, 0, 0));
        }
        due("ten cards", 1023, () -> Check.told(TEN + FORTH).reader(0, 9, 9));
        due("one card", 1, () -> Check.told("card 0 a;clerk;").reader(0, 0, 9));
    }

    // ---- Promise 31 ----

    private static void gameIs(MeerDrawers x, int much, int resting, int first) {
        due("so many rest at " + much, resting, () -> x.game(0, 1, much, 0));
        due("the first at " + much, first, () -> x.game(0, 1, much, 1));
        due("turned about, so many rest at " + much, resting, () -> x.game(1, 0, much, 0));
        due("turned about, the first at " + much, first, () -> x.game(1, 0, much, 1));
    }

    private static void promise31() {
        MeerDrawers empty = Check.told(TEN + FORTH + BACK);
        gameIs(empty, 0, 4, 0);
        gameIs(empty, 1, 2, 0);
        gameIs(empty, 99, 2, 0);
        MeerDrawers two = Drawers.standing(TEN + FORTH + BACK, 4, 7);
        gameIs(two, 0, 2, 1);
        gameIs(two, 1, 3, 0);
        gameIs(two, 2, 2, 0);
        MeerDrawers full = full(FORTH + BACK);
        gameIs(full, 0, 2, 1);
        gameIs(full, 1, 1, 1);
        gameIs(full, 44, 1, 1);
        gameIs(full, 45, 3, 0);
        gameIs(full, 46, 2, 0);
        gameIs(full, 98, 2, 0);
        gameIs(full, 99, 2, 0);
        gameIs(full(FORTH + FORTH), 0, 4, 0);
        for (int much : new int[] {-1, -2, 100, 101, Integer.MIN_VALUE, Integer.MAX_VALUE}) {
            CHECK.illegal("so much: " + much, () -> full.game(0, 1, much, 0));
            CHECK.illegal("both are one, so much: " + much, () -> full.game(1, 1, much, 1));
            noSuch("no such clerk, so much: " + much, () -> full.game(2, 1, much, 0));
            noSuch("no such other, so much: " + much, () -> full.game(0, 2, much, 0));
            noSuch("no such what, so much: " + much, () -> full.game(0, 1, much, 2));
            noSuch("no such what, both are one, so much: " + much, () -> full.game(0, 0, much, -1));
        }
        CHECK.illegal("both are one", () -> full.game(0, 0, 0, 0));
        CHECK.illegal("both are the other one", () -> full.game(1, 1, 99, 1));
        for (int other : Drawers.outside(2)) {
            noSuch("game of " + other, () -> full.game(other, 0, 0, 0));
            noSuch("game with " + other, () -> full.game(0, other, 0, 0));
            noSuch("game of " + other + " alone", () -> full.game(other, other, 0, 0));
            noSuch("game, what " + other, () -> full.game(0, 1, 0, other));
        }
    }

    // ---- Promise 32 ----

    private static BigInteger next(BigInteger seed) {
        return seed.multiply(BigInteger.valueOf(1103515245)).add(BigInteger.valueOf(12345)).mod(BigInteger.TWO.pow(32));
    }

    /** Bits 16 to 30, MOD n. */
    private static int drawn(BigInteger seed, int n) {
        return seed.shiftRight(16).mod(BigInteger.TWO.pow(15)).mod(BigInteger.valueOf(n)).intValue();
    }

    private static void promise32() {
        MeerDrawers one = Check.told("card 0 a;clerk;");
        for (int n = 0; n <= 60; n++) {
            int years = n;
            due("put and taken in turn, " + years, years % 2, () -> one.years(5, years, 1));
        }
        due("all are found", 0, () -> one.years(5, 60, 0));
        due("nothing is wrong", 0, () -> one.years(5, 60, 2));
        for (int n : new int[] {-1, -2, 61, 62, Integer.MIN_VALUE, Integer.MAX_VALUE}) {
            CHECK.illegal(n + " years", () -> one.years(5, n, 0));
            CHECK.illegal(n + " years", () -> one.years(5, n, 2));
            noSuch(n + " years, no such what", () -> one.years(5, n, 3));
            noSuch(n + " years, no such what", () -> one.years(5, n, -1));
        }
        for (int what : Drawers.outside(3)) {
            noSuch("years, what " + what, () -> one.years(5, 1, what));
        }
        CHECK.illegal("61 years without cards", () -> new MeerDrawers().years(5, 61, 0));
        noSuch("no such what without cards", () -> new MeerDrawers().years(5, 61, 3));
        for (int what = 0; what < 3; what++) {
            int asked = what;
            for (int n : new int[] {0, 1, 59, 60}) {
                due("without clerks, " + n, 0, () -> Check.told(TEN).years(5, n, asked));
                due("without cards, " + n, 0, () -> Check.told(FORTH).years(5, n, asked));
            }
        }
        due("no years: the drawer as it is", 10, () -> full(BACK + FORTH).years(5, 0, 1));
        due("no years: wrong by clerk 0", 45, () -> full(BACK + FORTH).years(5, 0, 2));
        due("no years: wrong by the only clerk", 45, () -> full(BACK).years(5, 0, 2));
        due("no years: none missed", 0, () -> full(BACK + FORTH).years(5, 0, 0));
        for (int seed : new int[] {0, 1, -1, 7, 65536, Integer.MAX_VALUE, Integer.MIN_VALUE, 0x7fff0000, 0x80000001}) {
            drawsOf(seed);
        }
    }

    private static void drawsOf(int seed) {
        BigInteger first = next(BigInteger.valueOf(seed));
        BigInteger second = next(first);
        BigInteger third = next(second);
        for (int card = 0; card < 10; card++) {
            MeerDrawers x = Drawers.standing(TEN + FORTH + BACK + FORTH, card);
            // The drawn card is taken out, if it is the one that is in it; else it is put in.
            int behindOne = drawn(first, 10) == card ? 0 : 2;
            due("seed " + seed + ", a year with " + card, behindOne, () -> x.years(seed, 1, 1));
            boolean again = drawn(third, 10) == card || drawn(third, 10) == drawn(first, 10);
            if (behindOne == 2 && !again) {
                due("seed " + seed + ", two years with " + card, 3, () -> x.years(seed, 2, 1));
            }
            boolean back = drawn(second, 3) == 1;
            due("seed " + seed + ", by the drawn clerk with " + card, behindOne == 2 && back ? 1 : 0,
                    () -> x.years(seed, 1, 2));
            due("the drawer is as it was", card, () -> x.drawer(0));
            due("no acts", 2, () -> x.count(4));
        }
        MeerDrawers missed = full(BACK);
        due("seed " + seed + ", all but the middle one are missed", drawn(first, 10) == 4 ? 0 : 1,
                () -> missed.years(seed, 1, 0));
        due("what is missed stays", drawn(first, 10) == 4 ? 9 : 10, () -> missed.years(seed, 1, 1));
    }

    // ---- Promises 33 to 35 ----

    private static void compromiseIs(String text, int hurt, int... row) {
        MeerDrawers x = Check.told(text);
        due("hurt of " + text, hurt, () -> x.compromise(-1));
        for (int i = 0; i < row.length; i++) {
            int at = i;
            due("compromise " + at + " of " + text, row[at], () -> x.compromise(at));
        }
        for (int i : Drawers.outside(row.length)) {
            if (i != -1) {
                noSuch("compromise " + i + " of " + text, () -> x.compromise(i));
            }
        }
    }

    private static void promise33() {
        int[] back = {9, 8, 7, 6, 5, 4, 3, 2, 1, 0};
        compromiseIs("", 0);
        compromiseIs(FORTH.repeat(4), 0);
        compromiseIs("card 0 a;" + FORTH + BACK, 0, 0);
        compromiseIs(TEN, 0, Drawers.upTo(10));
        compromiseIs(TEN + FORTH, 0, Drawers.upTo(10));
        compromiseIs(TEN + BACK, 0, back);
        compromiseIs(TEN + FORTH + BACK, 45, Drawers.upTo(10));
        compromiseIs(TEN + BACK + FORTH, 45, Drawers.upTo(10));
        compromiseIs(TEN + FORTH + BACK + BACK, 45, back);
        compromiseIs(TEN + FORTH + FORTH + BACK + BACK, 90, Drawers.upTo(10));
        compromiseIs(TEN + BACK.repeat(4), 0, back);
        compromiseIs("card 0 a;".repeat(3) + FORTH + tied("number+3*(number=0)", "number-3*(number=2)"), 4, 0, 1, 2);
    }

    private static void promise34() {
        due("nothing", 0, () -> new MeerDrawers().agreed());
        due("no cards", 0, () -> Check.told(FORTH.repeat(4)).agreed());
        due("one card", 1, () -> Check.told("card 0 a;" + FORTH + BACK).agreed());
        due("no clerks", 10, () -> Check.told(TEN).agreed());
        due("one clerk", 10, () -> Check.told(TEN + BACK).agreed());
        due("four who agree", 10, () -> Check.told(TEN + BACK.repeat(4)).agreed());
        due("two who never do", 1, () -> Check.told(TEN + FORTH + BACK).agreed());
        due("one of four does not", 1, () -> Check.told(TEN + FORTH.repeat(3) + BACK).agreed());
        due("all but one card", 9, () -> Check.told(TEN + FORTH.repeat(3) + tied("number+10*(number=0)")).agreed());
        due("five and five", 5, () -> Check.told(TEN + FORTH + tied("number+10*(number<5)")).agreed());
        due("three and seven", 7, () -> Check.told(TEN + FORTH + tied("number+10*(number<3)")).agreed());
    }

    private static void promise35() {
        String five = tied("number+10*(number<5)");
        String[] clerks = {"", FORTH, FORTH + BACK, FORTH + FORTH, FORTH.repeat(4), FORTH + BACK + five + five,
            five + BACK + FORTH + five, FORTH + BACK + five};
        int[] couples = {-1, -1, 45, 0, 0, 0, 0, 20};
        int[] who = {-1, -1, 1, 1, 1, 23, 3, 12};
        for (int i = 0; i < clerks.length; i++) {
            MeerDrawers x = Check.told(TEN + clerks[i]);
            int few = couples[i];
            int two = who[i];
            due("closest of " + clerks[i], few, () -> x.closest(0));
            due("closest two of " + clerks[i], two, () -> x.closest(1));
            for (int what : Drawers.outside(2)) {
                noSuch("closest " + what + " of " + clerks.length, () -> x.closest(what));
            }
        }
        due("without cards", 0, () -> Check.told(FORTH + BACK).closest(0));
        due("without cards", 1, () -> Check.told(FORTH + BACK).closest(1));
    }

    // ---- Promises 36 to 38 ----

    private static void promise36() {
        MeerDrawers x = full(FORTH + BACK);
        for (int card = 0; card < 10; card++) {
            int c = card;
            due("off by none: " + c, 0, () -> x.off(0, c));
            due("off by the other: " + c, 2 * c - 9, () -> x.off(1, c));
        }
        x.take(0);
        due("not in it", -99, () -> x.off(0, 0));
        due("of those in it", -8, () -> x.off(1, 1));
        due("an empty drawer", -99, () -> Check.told(TEN + FORTH).off(0, 9));
        due("one card", 0, () -> Drawers.standing(TEN + FORTH + BACK, 9).off(1, 9));
        for (int card : Drawers.outside(10)) {
            noSuch("off of " + card, () -> x.off(0, card));
        }
        for (int clerk : Drawers.outside(2)) {
            noSuch("off by " + clerk, () -> x.off(clerk, 1));
            noSuch("off by " + clerk + " of what is out", () -> x.off(clerk, 0));
        }
    }

    private static void promise37() {
        MeerDrawers empty = Check.told(TEN + FORTH);
        due("worst of none", -1, () -> empty.worst(0, 0));
        due("hardest of none", -1, () -> empty.worst(0, 1));
        MeerDrawers one = Drawers.standing(TEN + FORTH, 9);
        due("worst of one", -1, () -> one.worst(0, 0));
        due("hardest of one", 9, () -> one.worst(0, 1));
        MeerDrawers full = full(FORTH + BACK);
        due("nothing is wrong", -1, () -> full.worst(0, 0));
        due("all alike, the least", 0, () -> full.worst(1, 0));
        due("hardest: 3, 6, 9 alike", 3, () -> full.worst(0, 1));
        due("hardest: 0 to 3 alike, though none is found", 0, () -> full.worst(1, 1));
        for (int other : Drawers.outside(2)) {
            noSuch("worst by " + other, () -> full.worst(other, 0));
            noSuch("worst, what " + other, () -> full.worst(0, other));
        }
        due("the last one ahead", 9, () -> Drawers.standing(TEN + FORTH, 9, 0, 1, 2, 3, 4, 5, 6, 7, 8).worst(0, 0));
        due("two turned about, the least", 8, () -> Drawers.standing(TEN + FORTH, 0, 1, 2, 3, 4, 5, 6, 7, 9, 8).worst(0, 0));
        // In b a a search for c, which is out, is the hardest, but c is no card of the drawer.
        due("hardest of those in it", 0, () -> Drawers.standing("card 0 b;card 0 a;card 0 c;clerk;", 0, 1).worst(0, 1));
    }

    private static void promise38() {
        for (int size = 0; size <= 10; size++) {
            MeerDrawers x = Drawers.standing(TEN + FORTH, Drawers.upTo(size));
            for (int many = 1; many <= 10; many++) {
                int of = many;
                int trays = (int) Math.ceil(size / (double) of);
                due(size + " cards by " + of, trays, () -> x.trays(0, of, -1));
                if (trays > 0) {
                    due(size + " cards by " + of + ", the first guide", 0, () -> x.trays(0, of, 0));
                }
                if (trays > 1) {
                    due(size + " cards by " + of + ", the last guide", 1, () -> x.trays(0, of, trays - 1));
                }
                noSuch(size + " cards by " + of + ", beyond", () -> x.trays(0, of, trays));
            }
        }
        MeerDrawers x = full(FORTH);
        for (int tray : Drawers.outside(4)) {
            if (tray != -1) {
                noSuch("tray " + tray, () -> x.trays(0, 3, tray));
            }
        }
        for (int many : new int[] {0, -1, 11, 12, Integer.MIN_VALUE, Integer.MAX_VALUE}) {
            CHECK.illegal("trays of " + many, () -> x.trays(0, many, -1));
            CHECK.illegal("trays of " + many + ", no such tray", () -> x.trays(0, many, 99));
            noSuch("trays of " + many + ", no such clerk", () -> x.trays(1, many, -1));
        }
        for (int clerk : Drawers.outside(1)) {
            noSuch("trays by " + clerk, () -> x.trays(clerk, 1, -1));
        }
        guides();
    }

    private static void guides() {
        String eights = "abcdefgh abcdefgh abcdefgh ";
        MeerDrawers x = Drawers.standing("card 0 b;card 0 a b;card 0 a;card 0 ab;card 0 b;card 0 bc;card 0 zz;"
                + "card 0 " + eights + "abcdefgh;card 0 " + eights + "abcdefgi;card 0 " + eights + "abcdefgi;clerk;",
                9, 8, 7, 6, 5, 4, 3, 2, 1, 0);
        // Filed: a, a b, ab, abcdefgh .. abcdefgh, .. abcdefgi twice, b, b, bc, zz.
        int[] guides = {0, 2, 2, 3, 35, 35, 1, 1, 2, 1};
        for (int tray = 0; tray < 10; tray++) {
            int t = tray;
            due("the guide of " + t, guides[t], () -> x.trays(0, 1, t));
        }
        due("by two: ab behind a b", 2, () -> x.trays(0, 2, 1));
        due("by two: .. abcdefgi behind .. abcdefgh", 35, () -> x.trays(0, 2, 2));
        due("by nine: zz behind bc", 1, () -> x.trays(0, 9, 1));
        due("the drawer stays as it was", 9, () -> x.drawer(0));
        MeerDrawers joined = Drawers.standing("card 0 a b;card 0 ab;card 0 abc;clerk;join;", 0, 1, 2);
        due("alike: all of it", 2, () -> joined.trays(0, 1, 1));
        due("one letter more", 3, () -> joined.trays(0, 1, 2));
    }

    public static void main(String[] args) {
        promise18();
        promise19();
        promise20();
        promise21();
        promises22And23();
        promise24();
        promise25();
        promise26();
        promise27();
        promise28();
        promise29();
        promise30();
        promise31();
        promise32();
        promise33();
        promise34();
        promise35();
        promise36();
        promise37();
        promise38();
        CHECK.end();
    }
}
