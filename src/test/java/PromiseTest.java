import java.nio.charset.StandardCharsets;

/** Each promise by hand: ordinary inputs, the edges that the document names, wrong inputs. */
public final class PromiseTest {
    private static final Check CHECK = new Check();

    /** The document's own names: three clerks who look for van der Meer in three places. */
    private static final String MEER = "card 600 van der meer;card 500 the sea;card 700 st john;card 500 sea;"
            + "clerk;skip the;spell st saint;clerk;skip van;skip der;join;turn;clerk;fold e i;tie 0-number;";

    /** Clerk 0 files a b c, clerk 1 b c a, clerk 2 c a b. */
    private static final String RING = "card 0 a;card 0 b;card 0 c;clerk;clerk;fold a d;clerk;fold a d;fold b e;";

    private static void due(String call, long want, Check.Call made) {
        CHECK.due(call, want, made);
    }

    private static void noSuch(String call, Check.Call made) {
        CHECK.noSuch(call, made);
    }

    private static void illegal(String call, Check.Call made) {
        CHECK.illegal(call, made);
    }

    private static void rowIs(String name, MeerDrawers x, int... cards) {
        CHECK.rowIs(name, x, cards);
    }

    private static void keyIs(MeerDrawers x, int clerk, int card, String key) {
        due("key length of " + key, key.length(), () -> x.key(clerk, card, -1));
        for (int i = 0; i < key.length(); i++) {
            int at = i;
            int sign = key.charAt(at) == ' ' ? 0 : key.charAt(at) - 'a' + 1;
            due("key " + key + " at " + at, sign, () -> x.key(clerk, card, at));
        }
        noSuch("key beyond " + key, () -> x.key(clerk, card, key.length()));
        noSuch("key ahead of " + key, () -> x.key(clerk, card, -2));
    }

    /** The ring's cards in the order c a b, as clerk 2 would have it. */
    private static MeerDrawers ringDrawer() {
        MeerDrawers x = Check.told(RING);
        x.put(0, 0);
        x.put(1, 0);
        x.put(2, 2);
        return x;
    }

    private static void promise1() {
        MeerDrawers x = new MeerDrawers();
        for (int what = 0; what < 8; what++) {
            int asked = what;
            due("count of a new one", 0, () -> x.count(asked));
        }
        noSuch("card of a new one", () -> x.card(0, 0));
        noSuch("clerk of a new one", () -> x.clerk(0, 0));
        due("fault of a new one", -1, x::fault);
        due("undo of a new one", -1, x::undo);
        due("restore of a new one", 0, () -> x.restore() ? 1 : 0);
    }

    private static void promise2() {
        MeerDrawers x = new MeerDrawers();
        for (int i = 1; i <= 35; i++) {
            due("feed", 20 * i, () -> x.feed(1, 2, 3, 4, 5));
        }
        due("feed beyond 700", -1, () -> x.feed(1, 2, 3, 4, 5));
        due("count behind it", 700, () -> x.count(5));
        MeerDrawers y = new MeerDrawers();
        // 'clerk;clerk;clerk;  ': a wrong order of bytes is a fault.
        due("feed", 20, () -> y.feed(0x636c6572, 0x6b3b636c, 0x65726b3b, 0x636c6572, 0x6b3b2020));
        due("bytes, the highest first", 0, () -> y.catalogue(20));
        due("clerks", 3, () -> y.count(1));
        MeerDrawers z = new MeerDrawers();
        z.feed(0x636c6572, 0x6b3be3ff, 0x80808080, 0, 0);
        due("a byte above 127", 1, () -> z.catalogue(20));
        due("its place", 6, z::fault);
    }

    private static void promise3() {
        MeerDrawers x = ringDrawer();
        x.stay(0);
        x.image();
        Check.feed(x, "clerk;clerk;oops".getBytes(StandardCharsets.ISO_8859_1));
        illegal("n too much", () -> x.catalogue(21));
        illegal("n below 0", () -> x.catalogue(-1));
        due("nothing changes", 20, () -> x.count(5));
        due("no fault", -1, x::fault);
        due("a fault", 1, () -> x.catalogue(16));
        due("its place", 12, x::fault);
        due("the tape is empty", 0, () -> x.count(5));
        due("refused", 1, () -> x.count(6));
        illegal("none is left", () -> x.catalogue(1));
        due("the fault stays", 12, x::fault);
        due("cards stay", 3, () -> x.count(0));
        due("clerks stay", 3, () -> x.count(1));
        due("acts stay", 3, () -> x.count(4));
        due("the kept row stays", 0, () -> x.stays(0));
        rowIs("the drawer stays", x, 2, 0, 1);
        due("the image stays", 1, () -> x.restore() ? 1 : 0);
        keyIs(x, 1, 0, "d");
        due("a refused act", -1, () -> x.put(0, 0));
        Check.feed(x, "card 5 b;clerk;oops".getBytes(StandardCharsets.ISO_8859_1));
        due("anew, of the first bytes alone", 0, () -> x.catalogue(15));
        due("no fault", -1, x::fault);
        due("the tape is empty", 0, () -> x.count(5));
        due("cards", 1, () -> x.count(0));
        due("clerks", 1, () -> x.count(1));
        due("the drawer is empty", 0, () -> x.count(2));
        due("no acts", 0, () -> x.count(4));
        due("status stays", 1, () -> x.count(6));
        due("status stays", 1, () -> x.count(7));
        noSuch("no kept row", () -> x.stays(0));
        due("no undo", -1, x::undo);
        due("no image", 0, () -> x.restore() ? 1 : 0);
        keyIs(x, 0, 0, "b");
        due("nothing is a catalogue too", 0, () -> x.catalogue(0));
        due("no cards", 0, () -> x.count(0));
    }

    private static void promise4() {
        MeerDrawers x = new MeerDrawers();
        due("a fault", 2, () -> Check.tell(x, "card 1000 a;"));
        due("its place", 5, x::fault);
        due("another", 1, () -> Check.tell(x, "clerk;turn"));
        due("its place, the text's length", 10, x::fault);
        due("none", 0, () -> Check.tell(x, "clerk;turn;"));
        due("no place", -1, x::fault);
    }

    private static void promise5() {
        MeerDrawers x = ringDrawer();
        x.take(0);
        due("cards", 3, () -> x.count(0));
        due("clerks", 3, () -> x.count(1));
        due("in the drawer", 2, () -> x.count(2));
        due("as bits", 6, () -> x.count(3));
        due("acts", 4, () -> x.count(4));
        x.feed(0, 0, 0, 0, 0);
        due("bytes", 20, () -> x.count(5));
        due("texts refused", 1, () -> x.catalogue(1));
        due("texts refused", 1, () -> x.count(6));
        x.take(0);
        x.move(1, 5);
        x.put(2, 0);
        due("acts refused", 3, () -> x.count(7));
        noSuch("count 8", () -> x.count(8));
        noSuch("count -1", () -> x.count(-1));
    }

    private static void promise6() {
        MeerDrawers x = Check.told(MEER);
        x.put(2, 0);
        x.put(0, 0);
        int[][] want = {{600, 3, 10, 1, 0}, {500, 2, 6, -1, 0}, {700, 2, 6, 0, 3}, {500, 1, 3, -1, 4}};
        for (int card = 0; card < 4; card++) {
            for (int what = 0; what < 5; what++) {
                int c = card;
                int w = what;
                due("card " + c + " " + w, want[c][w], () -> x.card(c, w));
            }
        }
        noSuch("what 5", () -> x.card(0, 5));
        noSuch("what -1", () -> x.card(0, -1));
        noSuch("card 4", () -> x.card(4, 0));
        noSuch("card -1", () -> x.card(-1, 0));
    }

    private static void promise7() {
        MeerDrawers x = ringDrawer();
        int[][] want = {{0, 0, 0, 0, 2, 1, 2}, {1, 0, 0, 0, 2, 1, 2}, {2, 0, 0, 0, 0, 0, 2}};
        for (int clerk = 0; clerk < 3; clerk++) {
            for (int what = 0; what < 7; what++) {
                int c = clerk;
                int w = what;
                due("clerk " + c + " " + w, want[c][w], () -> x.clerk(c, w));
            }
        }
        MeerDrawers y = Check.told("clerk;turn;clerk;join;clerk;tie 1;");
        due("turn", 1, () -> y.clerk(0, 1));
        due("join", 1, () -> y.clerk(1, 2));
        due("tie", 1, () -> y.clerk(2, 3));
        due("no tie", 0, () -> y.clerk(0, 3));
        due("looks in an empty drawer", 0, () -> y.clerk(0, 6));
        noSuch("what 7", () -> x.clerk(0, 7));
        noSuch("what -1", () -> x.clerk(0, -1));
        noSuch("clerk 3", () -> x.clerk(3, 0));
        noSuch("clerk -1", () -> x.clerk(-1, 0));
    }

    private static void promise8() {
        MeerDrawers x = Check.told(MEER);
        keyIs(x, 0, 0, "van der meer");
        keyIs(x, 0, 1, "sea");
        keyIs(x, 0, 2, "saint john");
        keyIs(x, 1, 0, "meer");
        keyIs(x, 1, 1, "seathe");
        keyIs(x, 1, 2, "johnst");
        keyIs(x, 2, 0, "van dir miir");
        MeerDrawers y = Check.told("card 0 a b c;card 0 the the;card 0 a the b d;card 0 zz y;"
                + "clerk;spell a b;spell b a;clerk;fold a b;fold b c;clerk;spell a the;skip the;turn;"
                + "clerk;fold z a;skip zz;skip aa;");
        keyIs(y, 0, 0, "b a c");
        keyIs(y, 1, 0, "b c c");
        keyIs(y, 2, 0, "c b");
        keyIs(y, 2, 1, "the");
        keyIs(y, 2, 2, "d b");
        // Skipped is a word as it is once folded: aa, not zz.
        keyIs(y, 3, 3, "y");
        MeerDrawers z = Check.told("card 0 zz y;card 0 abcdefgh abcdefgh abcdefgh abcdefgh;"
                + "clerk;fold z a;skip zz;clerk;turn;join;clerk;");
        keyIs(z, 0, 0, "aa y");
        keyIs(z, 1, 0, "yzz");
        keyIs(z, 2, 1, "abcdefgh abcdefgh abcdefgh abcdefgh");
        noSuch("no such clerk", () -> z.key(3, 0, -1));
        noSuch("no such card", () -> z.key(0, 2, -1));
    }

    private static void promise9() {
        MeerDrawers x = Check.told("card 5 ab;card 4 a b;card 4 ab;card 3 abc;card 4 ab;"
                + "clerk;clerk;join;clerk;tie 0-number;clerk;tie letters<9;");
        for (int clerk = 0; clerk < 4; clerk++) {
            int c = clerk;
            due("nothing goes before something", 1, () -> x.before(c, 0, 3) ? 1 : 0);
            due("not the other way", 0, () -> x.before(c, 3, 0) ? 1 : 0);
            due("itself", 0, () -> x.before(c, 0, 0) ? 1 : 0);
            due("a blank goes before letters", 1, () -> x.before(c, 1, 2) ? 1 : 0);
        }
        due("by year", 1, () -> x.before(0, 2, 0) ? 1 : 0);
        due("by number", 1, () -> x.before(0, 2, 4) ? 1 : 0);
        due("joined, by number", 1, () -> x.before(1, 1, 2) && x.before(1, 2, 4) ? 1 : 0);
        due("by the tie", 1, () -> x.before(2, 4, 2) ? 1 : 0);
        due("by the tie, not the year", 1, () -> x.before(3, 0, 2) ? 1 : 0);
        noSuch("no such clerk", () -> x.before(4, 0, 1) ? 1 : 0);
        noSuch("no such card", () -> x.before(0, 5, 1) ? 1 : 0);
        noSuch("no such other", () -> x.before(0, 1, -1) ? 1 : 0);
    }

    /** What a tie counts, seen by which of two cards with like keys goes first. */
    private static void tieHolds(String tie, boolean firstFirst) {
        MeerDrawers x = Check.told("card 7 a;card 3 a;clerk;tie " + tie + ";");
        due("tie " + tie, firstFirst ? 1 : 0, () -> x.before(0, 0, 1) ? 1 : 0);
    }

    private static void ties() {
        tieHolds("1", true);
        tieHolds("year", false);
        tieHolds("0-year", true);
        tieHolds("10-year-1", true);
        tieHolds("10-(year-1)", true);
        tieHolds("1-number", false);
        tieHolds("year/2*2-number*7", false);
        tieHolds("year/0", true);
        tieHolds("1-2/0-number", false);
        tieHolds("(0-3)/2+1+number", true);
        tieHolds("((0-3)/2+1)*number-0*1", true);
        tieHolds("((0-3)/2+2)*(0-number)", false);
        tieHolds("year<5", true);
        tieHolds("5<year", false);
        tieHolds("0-(year<7)", false);
        tieHolds("7<year or year=3", true);
        tieHolds("not year<5", false);
        tieHolds("not not year=3", true);
        tieHolds("year=7 or year=3 and 0", false);
        tieHolds("(year=7 or year=3) and 1", true);
        tieHolds("not 0 and year=7", false);
        tieHolds("2 and year", true);
        tieHolds("2-2*number+0", false);
        // 999700029999 wraps to -1027349969, 9898020099 to 1308085507.
        tieHolds("9999*9999*9999*number", false);
        tieHolds("9999*9999*99*number", true);
        MeerDrawers again = new MeerDrawers();
        for (int i = 0; i < 6; i++) {
            // Long ties, one text behind the other: none may be cut short by those ahead of it.
            String tie = "1+".repeat(300) + (i % 2 == 0 ? "year" : "number");
            int due = i % 2;
            due("a long tie", 0, () -> Check.tell(again, "card 7 a;card 3 a;clerk;tie " + tie + ";"));
            due("a long tie " + due, due, () -> again.before(0, 0, 1) ? 1 : 0);
        }
        MeerDrawers x = Check.told("clerk;tie letters*10+words;card 0 abc;card 0 a bc;card 0 ab c;clerk;join;tie words;"
                + "clerk;join;tie 0-words;");
        due("words", 1, () -> x.before(1, 0, 1) ? 1 : 0);
        due("words, less first", 1, () -> x.before(2, 1, 0) ? 1 : 0);
        due("alike, the lesser", 1, () -> x.before(2, 1, 2) ? 1 : 0);
    }

    private static void promises10And11() {
        MeerDrawers x = Check.told(MEER);
        int[][] rows = {{2, 1, 3, 0}, {2, 0, 3, 1}, {3, 2, 1, 0}};
        for (int clerk = 0; clerk < 3; clerk++) {
            for (int rank = 0; rank < 4; rank++) {
                int c = clerk;
                int r = rank;
                due("at " + c + " " + r, rows[c][r], () -> x.at(c, r));
                due("rank " + c + " of " + rows[c][r], r, () -> x.rank(c, rows[c][r]));
            }
        }
        noSuch("rank of no card", () -> x.rank(0, 4));
        noSuch("rank by no clerk", () -> x.rank(3, 0));
        noSuch("at a rank that is none", () -> x.at(0, 4));
        noSuch("at a rank below 0", () -> x.at(0, -1));
        noSuch("at by no clerk", () -> x.at(3, 0));
    }

    private static void promises12To16() {
        MeerDrawers x = Check.told(RING);
        noSuch("an empty drawer", () -> x.drawer(0));
        due("put", 0, () -> x.put(0, 0));
        due("put behind all", 1, () -> x.put(1, 0));
        due("put ahead of the first", 0, () -> x.put(2, 2));
        rowIs("behind three puts", x, 2, 0, 1);
        noSuch("drawer beyond", () -> x.drawer(3));
        noSuch("drawer ahead", () -> x.drawer(-1));
        due("put again", -1, () -> x.put(2, 1));
        noSuch("put by no clerk, though it is in it", () -> x.put(2, 3));
        noSuch("put of no card", () -> x.put(3, 0));
        due("refused once", 1, () -> x.count(7));
        due("acts", 3, () -> x.count(4));
        due("move to the end", 0, () -> x.move(2, 2));
        rowIs("moved to the end", x, 0, 1, 2);
        due("move ahead", 1, () -> x.move(1, 0));
        rowIs("moved ahead", x, 1, 0, 2);
        due("move to its own place", 1, () -> x.move(0, 1));
        rowIs("moved nowhere", x, 1, 0, 2);
        due("move beyond", -1, () -> x.move(0, 3));
        due("move below 0", -1, () -> x.move(0, -1));
        noSuch("move of no card", () -> x.move(3, 0));
        due("take", 1, () -> x.take(0));
        rowIs("taken", x, 1, 2);
        due("take again", -1, () -> x.take(0));
        due("move what is out", -1, () -> x.move(0, 0));
        noSuch("take of no card", () -> x.take(-1));
        due("refused", 5, () -> x.count(7));
        due("acts", 7, () -> x.count(4));
        due("put between: ahead of the first it goes before", 0, () -> x.put(0, 0));
        rowIs("put", x, 0, 1, 2);
        due("filed, c a b", 3, () -> x.file(2));
        rowIs("filed", x, 2, 0, 1);
        due("filed again", 0, () -> x.file(2));
        due("filed, b c a", 3, () -> x.file(1));
        x.move(0, 1);
        due("filed, two elsewhere", 2, () -> x.file(1));
        noSuch("filed by none", () -> x.file(3));
        due("acts", 13, () -> x.count(4));
    }

    private static void promise17() {
        MeerDrawers x = ringDrawer();
        x.take(0);
        x.move(1, 0);
        x.file(0);
        rowIs("as acted", x, 1, 2);
        due("undo file", 5, x::undo);
        rowIs("file undone", x, 1, 2);
        due("undo move", 4, x::undo);
        rowIs("move undone", x, 2, 1);
        due("undo take", 3, x::undo);
        rowIs("take undone", x, 2, 0, 1);
        due("undo put", 2, x::undo);
        rowIs("put undone", x, 0, 1);
        due("undo put", 1, x::undo);
        due("undo put", 0, x::undo);
        rowIs("all undone", x);
        due("undo nothing", -1, x::undo);
        due("that is no refused act", 0, () -> x.count(7));
        MeerDrawers y = Check.told(RING);
        for (int i = 0; i < 21; i++) {
            y.put(0, 0);
            y.take(0);
        }
        y.put(1, 0);
        due("at most 40 acts", 40, () -> y.count(4));
        for (int left = 39; left >= 0; left--) {
            int due = left;
            due("undo", due, y::undo);
        }
        // The first three acts are no longer kept: a put, a take, a put.
        rowIs("as behind the third act", y, 0);
        due("undo nothing", -1, y::undo);
    }

    private static void promises18To21() {
        MeerDrawers x = Check.told(RING);
        due("differ", 2, () -> x.differ(0, 1, 0));
        due("the first", 1, () -> x.differ(0, 1, 1));
        due("the first", 2, () -> x.differ(0, 2, 1));
        due("the first", 1, () -> x.differ(1, 2, 1));
        due("of one", 0, () -> x.differ(2, 2, 0));
        due("of one", -1, () -> x.differ(2, 2, 1));
        noSuch("what", () -> x.differ(0, 1, 2));
        noSuch("what", () -> x.differ(0, 1, -1));
        noSuch("clerk", () -> x.differ(3, 1, 0));
        noSuch("other", () -> x.differ(0, -1, 0));
        due("votes", 1, () -> x.votes(0, 1));
        due("votes", -1, () -> x.votes(1, 0));
        due("votes", 1, () -> x.votes(2, 0));
        due("votes of itself", 0, () -> x.votes(1, 1));
        noSuch("votes", () -> x.votes(3, 0));
        noSuch("votes", () -> x.votes(0, 3));
        due("ring", 12, x::ring);
        due("no head", -1, x::head);
        MeerDrawers y = Check.told("card 0 a;card 0 b;card 0 c;clerk;fold b d;clerk;fold a e;fold b d;"
                + "clerk;fold a c;fold c d;");
        due("the ring the other way", 21, y::ring);
        MeerDrawers z = Check.told("card 0 b;card 0 a;card 0 c;clerk;clerk;fold a b;fold b c;fold c a;");
        due("even votes", 0, () -> z.votes(0, 2));
        due("no ring", -1, z::ring);
        due("no head by even votes", -1, z::head);
        evenVotesMakeNoRing("clerk;fold a d;clerk;fold a d;clerk;fold a d;fold b e;clerk;", 0, 1);
        evenVotesMakeNoRing("clerk;clerk;clerk;fold a d;clerk;fold a d;fold b e;", 2, 0);
        evenVotesMakeNoRing("clerk;fold a d;fold b e;clerk;fold a d;fold b e;clerk;clerk;fold a d;", 1, 2);
        due("head", 2, () -> Check.told(MEER).head());
        due("head of one card without clerks", 0, () -> Check.told("card 0 a;").head());
        due("head of two cards without clerks", -1, () -> Check.told("card 0 a;card 0 b;").head());
        due("head of none", -1, () -> Check.told("clerk;").head());
    }

    /** Four clerks who would make a ring, were it not for two cards with as many for as against. */
    private static void evenVotesMakeNoRing(String clerks, int card, int other) {
        MeerDrawers x = Check.told("card 0 a;card 0 b;card 0 c;" + clerks);
        due("even", 0, () -> x.votes(card, other));
        due("no ring by " + clerks, -1, x::ring);
    }

    private static void promises22And23() {
        MeerDrawers x = ringDrawer();
        noSuch("none is kept", () -> x.stays(0));
        due("stay", 2, () -> x.stay(0));
        due("stays", 0, () -> x.stays(0));
        due("stays", 1, () -> x.stays(1));
        noSuch("stays", () -> x.stays(2));
        noSuch("stays", () -> x.stays(-1));
        noSuch("stay by none", () -> x.stay(3));
        due("the row is still kept", 0, () -> x.stays(0));
        x.take(0);
        due("it is kept when the drawer changes", 0, () -> x.stays(0));
        x.undo();
        due("stay", 2, () -> x.stay(1));
        due("stays", 2, () -> x.stays(0));
        due("stays", 0, () -> x.stays(1));
        due("stay", 3, () -> x.stay(2));
        due("stays", 1, () -> x.stays(2));
        MeerDrawers y = Check.told("card 0 a;card 0 b;card 0 c;card 0 d;clerk;");
        due("stay of an empty drawer", 0, () -> y.stay(0));
        noSuch("stays of an empty row", () -> y.stays(0));
        for (int card = 0; card < 4; card++) {
            y.put(card, 0);
        }
        y.move(1, 0);
        y.move(3, 2);
        rowIs("b a d c", y, 1, 0, 3, 2);
        due("stay", 2, () -> y.stay(0));
        due("the first by places", 1, () -> y.stays(0));
        due("the first by places", 3, () -> y.stays(1));
    }

    private static void promise24() {
        MeerDrawers x = ringDrawer();
        int[][] looks = {{1, 2, 2}, {1, 2, 2}, {1, 2, 2}};
        int[][] found = {{1, 1, 0}, {1, 0, 1}, {1, 1, 1}};
        for (int clerk = 0; clerk < 3; clerk++) {
            for (int card = 0; card < 3; card++) {
                int k = clerk;
                int c = card;
                due("looks " + k + " " + c, looks[k][c], () -> x.search(k, c, 0));
                due("found " + k + " " + c, found[k][c], () -> x.search(k, c, 1));
            }
        }
        x.take(0);
        due("what is out", 0, () -> x.search(2, 0, 1));
        due("its looks", 2, () -> x.search(2, 0, 0));
        noSuch("what", () -> x.search(0, 0, 2));
        noSuch("clerk", () -> x.search(3, 0, 0));
        noSuch("card", () -> x.search(0, 3, 0));
        MeerDrawers y = Check.told(RING);
        due("an empty drawer", 0, () -> y.search(0, 0, 0));
        due("an empty drawer", 0, () -> y.search(0, 0, 1));
    }

    private static void promises25And26() {
        MeerDrawers x = ringDrawer();
        due("could", 4, x::could);
        due("explained", 4, x::explained);
        x.move(0, 2);
        rowIs("c b a", x, 2, 1, 0);
        due("could", 0, x::could);
        due("c b stands as clerk 2 would have it, b a as clerk 1", 6, x::explained);
        x.take(1);
        due("c a: 1 and 2 could", 6, x::could);
        due("the least", 2, x::explained);
        x.take(2);
        due("all could", 7, x::could);
        due("nobody is needed", 0, x::explained);
        MeerDrawers y = Check.told("card 0 a;card 0 b;clerk;clerk;");
        y.put(0, 0);
        y.put(1, 0);
        y.move(0, 1);
        due("none could", 0, y::could);
        due("none explain", -1, y::explained);
        due("empty, without clerks", 0, () -> new MeerDrawers().could());
    }

    private static void promise27() {
        MeerDrawers x = Check.told(RING);
        due("the least", 0, () -> x.telling(0));
        due("all to one place", 1, () -> x.telling(1));
        x.put(0, 0);
        due("b: behind, ahead, behind; c: behind, ahead, ahead", 1, () -> x.telling(0));
        due("places", 2, () -> x.telling(1));
        x.put(1, 0);
        due("c: 2, 0, 0", 2, () -> x.telling(0));
        due("places", 2, () -> x.telling(1));
        x.put(2, 0);
        due("all are in it", -1, () -> x.telling(0));
        due("all are in it", 0, () -> x.telling(1));
        noSuch("what", () -> x.telling(2));
        noSuch("what", () -> x.telling(-1));
        MeerDrawers y = Check.told("card 0 a;card 0 b;");
        due("without clerks the least", 0, () -> y.telling(0));
        due("without clerks no place", 0, () -> y.telling(1));
    }

    private static void promise28() {
        MeerDrawers x = Check.told(RING);
        due("clerk 1 without his fold", 2, () -> x.matters(1, 0));
        due("clerk 2 without his first: a c e", 1, () -> x.matters(2, 0));
        due("clerk 2 without his second: b c d", 2, () -> x.matters(2, 1));
        due("turn", 0, () -> x.matters(1, -1));
        noSuch("rule", () -> x.matters(1, 1));
        noSuch("rule", () -> x.matters(1, -4));
        noSuch("clerk", () -> x.matters(3, -1));
        noSuch("a clerk without rules", () -> x.matters(0, 0));
        MeerDrawers y = Check.told("card 9 a c;card 0 b a;card 8 ab;card 7 a b;clerk;clerk;turn;join;tie number;");
        // By clerk 0: a b, a c, ab, b a (3 0 2 1).
        due("turned: a b, ab, b a, c a (1 2 3 0)", 5, () -> y.matters(0, -1));
        due("joined: ab of 7, ab of 8, ac, ba (3 2 0 1)", 1, () -> y.matters(0, -2));
        due("no tie", 0, () -> y.matters(0, -3));
        // By clerk 1: ab, ab, ba, ca (1 2 3 0).
        due("not turned: ab, ab, ac, ba (2 3 0 1)", 3, () -> y.matters(1, -1));
        due("the tie, by number as by year", 0, () -> y.matters(1, -3));
        MeerDrawers z = Check.told("card 9 a;card 0 a;clerk;tie 0-year;");
        due("the tie matters", 1, () -> z.matters(0, -3));
        due("nothing has changed", 1, () -> z.before(0, 0, 1) ? 1 : 0);
    }

    private static void promise29() {
        MeerDrawers x = ringDrawer();
        due("c missed by 0, b by 1", 2, x::sees);
        x.file(0);
        rowIs("a b c", x, 0, 1, 2);
        due("a missed by 1 and by 2 under one key; c missed by 2", 2, x::sees);
        MeerDrawers y = Check.told("card 0 a;card 0 b;card 0 c;clerk;clerk;fold a d;clerk;fold a e;");
        y.put(0, 0);
        y.put(1, 0);
        y.put(2, 0);
        due("a missed by two under two keys", 2, y::sees);
        due("an empty drawer", 0, () -> Check.told(RING).sees());
    }

    private static void promise30() {
        MeerDrawers x = Check.told("card 0 ab;card 0 a b;card 0 abc;card 0 ab;card 0 abcdefgh ij;card 0 abcdefgh ik;clerk;");
        due("0 letters: all", 63, () -> x.reader(0, 0, 0));
        due("1 letter", 63, () -> x.reader(0, 0, 1));
        due("2 letters", 61, () -> x.reader(0, 0, 2));
        due("all of it", 61, () -> x.reader(0, 0, 9));
        due("a blank counts", 2, () -> x.reader(0, 1, 2));
        due("3 letters", 52, () -> x.reader(0, 2, 3));
        due("9 letters", 48, () -> x.reader(0, 4, 9));
        illegal("10 letters", () -> x.reader(0, 0, 10));
        illegal("-1 letters", () -> x.reader(0, 0, -1));
        noSuch("clerk, ahead of letters", () -> x.reader(1, 0, 10));
        noSuch("card, ahead of letters", () -> x.reader(0, 6, 10));
    }

    private static void promise31() {
        MeerDrawers x = ringDrawer();
        due("much 0: both unlike couples rest", 2, () -> x.game(0, 1, 0, 0));
        due("much 0: the first", 1, () -> x.game(0, 1, 0, 1));
        due("much 1: only 01 rests", 1, () -> x.game(0, 1, 1, 0));
        due("much 1", 1, () -> x.game(0, 1, 1, 1));
        due("much 2: 00, 01, 11", 3, () -> x.game(0, 1, 2, 0));
        due("much 2: the first", 0, () -> x.game(0, 1, 2, 1));
        due("much 99: 00, 11", 2, () -> x.game(0, 1, 99, 0));
        MeerDrawers y = Check.told(RING);
        due("nothing in it, much 0", 4, () -> y.game(0, 1, 0, 0));
        due("nothing in it, much 1", 2, () -> y.game(0, 1, 1, 0));
        noSuch("what, ahead", () -> x.game(0, 0, 100, 2));
        noSuch("clerk, ahead", () -> x.game(3, 3, 100, 0));
        noSuch("other, ahead", () -> x.game(0, 3, 100, 0));
        illegal("both are one", () -> x.game(1, 1, 5, 0));
        illegal("so much", () -> x.game(0, 1, 100, 0));
        illegal("so little", () -> x.game(0, 1, -1, 0));
    }

    private static void promise32() {
        MeerDrawers x = ringDrawer();
        due("no years", 0, () -> x.years(1, 0, 0));
        due("no years", 3, () -> x.years(1, 0, 1));
        due("no years", 2, () -> x.years(1, 0, 2));
        // Seed 1: 1103527590, bits 16838 mod 3 = 2 (c); then bits 5758 mod 3 = 1: clerk 1 finds c.
        due("one year: found", 0, () -> x.years(1, 1, 0));
        due("one year: taken out", 2, () -> x.years(1, 1, 1));
        due("one year: a b", 0, () -> x.years(1, 1, 2));
        rowIs("the drawer is as it was", x, 2, 0, 1);
        due("no acts", 3, () -> x.count(4));
        noSuch("what, ahead", () -> x.years(1, 61, 3));
        noSuch("what", () -> x.years(1, 1, -1));
        illegal("61", () -> x.years(1, 61, 0));
        illegal("-1", () -> x.years(1, -1, 0));
        due("60", 1, () -> x.years(1, 60, 1) >= 0 ? 1 : 0);
        due("without clerks", 0, () -> Check.told("card 0 a;").years(1, 60, 1));
        due("without clerks", 0, () -> Check.told("card 0 a;").years(1, 60, 2));
        due("without cards", 0, () -> Check.told("clerk;").years(1, 60, 0));
        MeerDrawers y = Check.told("card 0 a;clerk;");
        due("put, taken, put", 1, () -> y.years(7, 3, 1));
        due("put, taken", 0, () -> y.years(7, 2, 1));
    }

    private static void promises33To35() {
        MeerDrawers x = Check.told(RING);
        due("hurt", 4, () -> x.compromise(-1));
        for (int i = 0; i < 3; i++) {
            int at = i;
            due("the first row", at, () -> x.compromise(at));
        }
        noSuch("beyond", () -> x.compromise(3));
        noSuch("ahead", () -> x.compromise(-2));
        due("agreed", 1, x::agreed);
        due("closest", 2, () -> x.closest(0));
        due("closest", 1, () -> x.closest(1));
        noSuch("closest", () -> x.closest(2));
        noSuch("closest", () -> x.closest(-1));
        MeerDrawers y = Check.told("card 0 j;card 0 i;card 0 h;card 0 g;card 0 f;card 0 e;card 0 d;card 0 c;card 0 b;card 0 a;"
                + "clerk;clerk;fold a z;clerk;fold a y;");
        due("ten cards, b to j and a by two of three", 9, () -> y.compromise(-1));
        due("the first of it", 8, () -> y.compromise(0));
        due("the last of it", 9, () -> y.compromise(9));
        due("agreed: b to j", 9, y::agreed);
        due("closest", 0, () -> y.closest(0));
        due("closest", 12, () -> y.closest(1));
        Check.tell(y, "card 0 b;card 0 a;clerk;");
        due("anew", 1, () -> y.compromise(0));
        due("nobody is hurt", 0, () -> y.compromise(-1));
        due("one clerk", -1, () -> y.closest(0));
        due("one clerk", -1, () -> y.closest(1));
        MeerDrawers z = Check.told("card 0 b;card 0 a;");
        due("without clerks: by numbers", 0, () -> z.compromise(0));
        due("without clerks: all", 2, z::agreed);
    }

    private static void promises36And37() {
        MeerDrawers x = ringDrawer();
        int[][] off = {{1, 1, -2}, {-1, 2, -1}, {0, 0, 0}};
        for (int clerk = 0; clerk < 3; clerk++) {
            for (int card = 0; card < 3; card++) {
                int k = clerk;
                int c = card;
                due("off " + k + " " + c, off[k][c], () -> x.off(k, c));
            }
        }
        due("worst: c", 2, () -> x.worst(0, 0));
        due("worst: b", 1, () -> x.worst(1, 0));
        due("none is wrong", -1, () -> x.worst(2, 0));
        due("hardest: b and c alike", 1, () -> x.worst(0, 1));
        x.take(0);
        due("not in it", -99, () -> x.off(0, 0));
        due("c b: both alike, the least", 1, () -> x.worst(0, 0));
        x.take(1);
        x.take(2);
        due("empty", -1, () -> x.worst(0, 0));
        due("empty", -1, () -> x.worst(0, 1));
        noSuch("what", () -> x.worst(0, 2));
        noSuch("what", () -> x.worst(0, -1));
        noSuch("clerk", () -> x.worst(3, 0));
        noSuch("clerk", () -> x.off(3, 0));
        noSuch("card", () -> x.off(0, 3));
    }

    private static void promise38() {
        MeerDrawers x = Check.told("card 0 ab;card 0 abc;card 0 abd;card 0 abd;card 0 b;clerk;");
        due("an empty drawer", 0, () -> x.trays(0, 3, -1));
        noSuch("an empty drawer", () -> x.trays(0, 3, 0));
        for (int card = 4; card >= 0; card--) {
            x.put(card, 0);
        }
        x.move(0, 4);
        int[] guides = {0, 3, 3, 3, 1};
        for (int tray = 0; tray < 5; tray++) {
            int t = tray;
            due("the guide of " + t, guides[t], () -> x.trays(0, 1, t));
        }
        due("trays of 2", 3, () -> x.trays(0, 2, -1));
        due("its last guide", 1, () -> x.trays(0, 2, 2));
        due("trays of 5", 1, () -> x.trays(0, 5, -1));
        due("trays of 10", 1, () -> x.trays(0, 10, -1));
        noSuch("no such tray", () -> x.trays(0, 2, 3));
        noSuch("no such tray", () -> x.trays(0, 2, -2));
        illegal("of 0, ahead of the tray", () -> x.trays(0, 0, 99));
        illegal("of 11", () -> x.trays(0, 11, 0));
        illegal("of fewer than 0", () -> x.trays(0, -1, 0));
        noSuch("clerk, ahead of all", () -> x.trays(1, 11, 0));
        rowIs("the drawer is as it was", x, 1, 2, 3, 4, 0);
    }

    private static void promises39And40() {
        MeerDrawers x = ringDrawer();
        x.image();
        x.take(0);
        x.file(0);
        due("refused", -1, () -> x.take(0));
        due("restore", 1, () -> x.restore() ? 1 : 0);
        rowIs("restored", x, 2, 0, 1);
        due("acts", 3, () -> x.count(4));
        due("status is not restored", 1, () -> x.count(7));
        due("undo", 2, x::undo);
        rowIs("undone", x, 0, 1);
        due("restore again", 1, () -> x.restore() ? 1 : 0);
        rowIs("restored again", x, 2, 0, 1);
        x.take(2);
        x.image();
        x.take(1);
        due("the image is another one", 1, () -> x.restore() ? 1 : 0);
        rowIs("as the later image", x, 0, 1);
        due("acts", 4, () -> x.count(4));
        due("undo", 3, x::undo);
        rowIs("undone", x, 2, 0, 1);
    }

    public static void main(String[] args) {
        promise1();
        promise2();
        promise3();
        promise4();
        promise5();
        promise6();
        promise7();
        promise8();
        promise9();
        ties();
        promises10And11();
        promises12To16();
        promise17();
        promises18To21();
        promises22And23();
        promise24();
        promises25And26();
        promise27();
        promise28();
        promise29();
        promise30();
        promise31();
        promise32();
        promises33To35();
        promises36And37();
        promise38();
        promises39And40();
        CHECK.end();
    }
}
