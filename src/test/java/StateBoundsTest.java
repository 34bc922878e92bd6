import java.nio.charset.StandardCharsets;

/** Promises 1 to 17, 39 and 40 at their edges: the tape, the catalogue, the drawer, its acts and its image. */
public final class StateBoundsTest {
    private static final Check CHECK = new Check();

    private static final int MIN = Integer.MIN_VALUE;
    private static final int MAX = Integer.MAX_VALUE;
    private static final int BLANKS = 0x20202020;

    private static void due(String call, long want, Check.Call made) {
        CHECK.due(call, want, made);
    }

    private static void noSuch(String call, Check.Call made) {
        CHECK.noSuch(call, made);
    }

    private static void rowIs(String name, MeerDrawers x, int... cards) {
        CHECK.rowIs(name, x, cards);
        noSuch(name + ": ahead of it", () -> x.drawer(-1));
        noSuch(name + ": behind it", () -> x.drawer(cards.length));
    }

    private static void feedBlanks(MeerDrawers x, int times) {
        for (int i = 0; i < times; i++) {
            x.feed(BLANKS, BLANKS, BLANKS, BLANKS, BLANKS);
        }
    }

    // ---- Promise 1: "No CARDS, no CLERKS." ----

    /** A new object, and one that was told a text without cards and clerks, answer alike. */
    private static void nothingTold(String name, MeerDrawers x) {
        for (int what = 0; what <= 7; what++) {
            int asked = what;
            due(name + ": count " + asked, 0, () -> x.count(asked));
        }
        due(name + ": fault", -1, x::fault);
        due(name + ": ring", -1, x::ring);
        due(name + ": head", -1, x::head);
        due(name + ": could", 0, x::could);
        due(name + ": explained", 0, x::explained);
        due(name + ": telling", -1, () -> x.telling(0));
        due(name + ": telling how many", 0, () -> x.telling(1));
        due(name + ": sees", 0, x::sees);
        due(name + ": hurt", 0, () -> x.compromise(-1));
        noSuch(name + ": compromise", () -> x.compromise(0));
        due(name + ": agreed", 0, x::agreed);
        due(name + ": closest", -1, () -> x.closest(0));
        due(name + ": closest who", -1, () -> x.closest(1));
        for (int what = 0; what < 3; what++) {
            int asked = what;
            due(name + ": years " + asked, 0, () -> x.years(1, 60, asked));
        }
        due(name + ": undo", -1, x::undo);
        due(name + ": restore", 0, () -> x.restore() ? 1 : 0);
        noSuch(name + ": drawer", () -> x.drawer(0));
        noSuch(name + ": stays", () -> x.stays(0));
        nothingNamed(name, x);
    }

    /** Every call that names a card or a clerk has none to name. */
    private static void nothingNamed(String name, MeerDrawers x) {
        Check.Call[] calls = {
            () -> x.card(0, 0), () -> x.clerk(0, 0), () -> x.key(0, 0, -1), () -> x.before(0, 0, 0) ? 1 : 0,
            () -> x.rank(0, 0), () -> x.at(0, 0), () -> x.put(0, 0), () -> x.take(0), () -> x.move(0, 0),
            () -> x.file(0), () -> x.differ(0, 0, 0), () -> x.votes(0, 0), () -> x.stay(0), () -> x.search(0, 0, 0),
            () -> x.matters(0, -1), () -> x.reader(0, 0, 0), () -> x.game(0, 0, 0, 0), () -> x.off(0, 0),
            () -> x.worst(0, 0), () -> x.trays(0, 1, -1),
        };
        for (int i = 0; i < calls.length; i++) {
            noSuch(name + ": call " + i + " that names what is not", calls[i]);
        }
        due(name + ": none of them is a refused act", 0, () -> x.count(7));
    }

    private static void promise1() {
        nothingTold("new", new MeerDrawers());
        nothingTold("told nothing", Check.told(""));
        MeerDrawers x = Drawers.standing(Drawers.TEN + Drawers.FORTH + Drawers.BACK, 3, 1, 4);
        x.stay(0);
        x.image();
        Check.tell(x, "\n");
        nothingTold("told nothing anew", x);
    }

    // ---- Promise 2: "NONE, and none come, if it would have more than 700" ----

    private static void promise2() {
        MeerDrawers x = new MeerDrawers();
        for (int feeds = 1; feeds <= 35; feeds++) {
            int bytes = 20 * feeds;
            due("feed " + bytes, bytes, () -> x.feed(BLANKS, BLANKS, BLANKS, BLANKS, BLANKS));
            due("the tape has " + bytes, bytes, () -> x.count(5));
        }
        for (int i = 0; i < 3; i++) {
            due("feed beyond 700", -1, () -> x.feed(MIN, MAX, -1, 0, 1));
            due("none come", 700, () -> x.count(5));
        }
        due("that is no refused act", 0, () -> x.count(7));
        due("all 700 are still blanks", 0, () -> x.catalogue(700));
        due("the tape is empty", 0, () -> x.count(5));
        due("there is room again", 20, () -> x.feed(0, 0, 0, 0, 0));
        feedBlanks(x, 33);
        due("up to 700 again", 700, () -> x.feed(0, 0, 0, 0, 0));
        due("and not beyond", -1, () -> x.feed(0, 0, 0, 0, 0));
        due("a 0 is the first byte", 1, () -> x.catalogue(700));
        due("its place", 0, x::fault);
        eachByteInItsPlace();
    }

    /** Of twenty bytes each one in turn is no token, all others are blanks. */
    private static void eachByteInItsPlace() {
        for (int place = 0; place < 20; place++) {
            for (int code : new int[] {0, 127, 128, 255}) {
                int[] five = {BLANKS, BLANKS, BLANKS, BLANKS, BLANKS};
                int shift = 24 - 8 * (place % 4);
                five[place / 4] = five[place / 4] & ~(255 << shift) | code << shift;
                MeerDrawers x = new MeerDrawers();
                feedBlanks(x, 1);
                x.feed(five[0], five[1], five[2], five[3], five[4]);
                int due = 20 + place;
                due("byte " + code + " at " + due, 1, () -> x.catalogue(40));
                due("its place", due, x::fault);
            }
        }
    }

    // ---- Promise 3: "IllegalArgumentException: the tape has not so many, n below 0 (nothing changes)" ----

    private static void promise3() {
        MeerDrawers x = new MeerDrawers();
        CHECK.illegal("one byte of an empty tape", () -> x.catalogue(1));
        due("nothing of an empty tape", 0, () -> x.catalogue(0));
        String text = "card 7 b;clerk;turn;";
        Check.feed(x, text.getBytes(StandardCharsets.ISO_8859_1));
        for (int n : new int[] {-1, -2, 21, 22, 700, 701, MIN, MAX}) {
            CHECK.illegal("catalogue " + n, () -> x.catalogue(n));
            due("the tape behind catalogue " + n, 20, () -> x.count(5));
            due("the cards behind catalogue " + n, 0, () -> x.count(0));
            due("no refused text behind catalogue " + n, 0, () -> x.count(6));
        }
        due("all of it", 0, () -> x.catalogue(20));
        due("turn", 1, () -> x.clerk(0, 1));
        Check.feed(x, text.getBytes(StandardCharsets.ISO_8859_1));
        due("one less ends too soon", 1, () -> x.catalogue(19));
        due("where it ends", 19, x::fault);
        due("the tape is empty then too", 0, () -> x.count(5));
        due("all stays", 1, () -> x.clerk(0, 1));
        Check.feed(x, text.getBytes(StandardCharsets.ISO_8859_1));
        due("15 of 20", 0, () -> x.catalogue(15));
        due("no turn", 0, () -> x.clerk(0, 1));
        due("the other five are gone", 0, () -> x.count(5));
        Check.feed(x, text.getBytes(StandardCharsets.ISO_8859_1));
        due("0 of 20", 0, () -> x.catalogue(0));
        due("no cards", 0, () -> x.count(0));
        due("no clerks", 0, () -> x.count(1));
        due("the tape is empty", 0, () -> x.count(5));
        cutWithin();
        fullToSmallAndBack();
    }

    /** Of a token only those of the first n bytes count, whatever goes on behind them. */
    private static void cutWithin() {
        cut("card 5 abcdefgh", "ijkl;", 1, 15);
        cut("card 999", "999 a", 1, 8);
        cut("clerk;tie 9999", "999999", 1, 14);
        cut("clerk;tie year", "s;    ", 1, 14);
        cut("clerk;tie yea", "r;     ", 3, 10);
        cut("clerk;fold a", " b;     ", 1, 12);
        cut("clerk;fold a b", "c;    ", 1, 14);
        cut("clerk", ";clerk;clerk;  ", 1, 5);
        cut("clerk;", "oops          ", 0, -1);
        cut("clerk;clerk;", "turn;tie", 0, -1);
        cut("card 5 a; ", "(((((((((", 0, -1);
    }

    private static void cut(String text, String behind, int fault, int place) {
        MeerDrawers x = new MeerDrawers();
        Check.feed(x, (text + behind).getBytes(StandardCharsets.ISO_8859_1));
        due(text + " | " + behind, fault, () -> x.catalogue(text.length()));
        due(text + " | " + behind + ": its place", place, x::fault);
        due(text + " | " + behind + ": the tape", 0, () -> x.count(5));
    }

    /** "all anew": nothing of a greater catalogue shines through a lesser one, nor of a text with a fault. */
    private static void fullToSmallAndBack() {
        String full = "card 9 b a;".repeat(10) + "clerk;skip b;turn;join;tie 0-number;".repeat(4);
        MeerDrawers x = Check.told(full);
        due("a lesser one", 0, () -> Check.tell(x, "card 1 b a;card 2 c;clerk;"));
        due("no rules", 0, () -> x.clerk(0, 0));
        for (int what = 1; what <= 3; what++) {
            int asked = what;
            due("no turn, join, tie", 0, () -> x.clerk(0, asked));
        }
        due("b a", 3, () -> x.key(0, 0, -1));
        due("c", 1, () -> x.key(0, 1, -1));
        due("a fault at its very end", 5, () -> Check.tell(x, full + "turn"));
        due("one clerk", 1, () -> x.count(1));
        due("b a still", 3, () -> x.key(0, 0, -1));
        due("a clerk alone", 0, () -> Check.tell(x, "clerk;"));
        noSuch("no card is left", () -> x.card(0, 0));
        due("the full one again", 0, () -> Check.tell(x, full));
        due("10 cards", 10, () -> x.count(0));
        due("turned back by the tie", 9, () -> x.at(3, 0));
    }

    // ---- Promise 4: "The place of the latest catalogue()'s FAULT; NONE without" ----

    private static void promise4() {
        MeerDrawers x = new MeerDrawers();
        due("no catalogue yet", -1, x::fault);
        CHECK.illegal("a call that throws", () -> x.catalogue(1));
        due("it tells no fault", -1, x::fault);
        Check.tell(x, ";");
        due("the first place", 0, x::fault);
        CHECK.illegal("a call that throws", () -> x.catalogue(-1));
        due("it leaves the fault", 0, x::fault);
        Check.tell(x, " ".repeat(699) + ";");
        due("the last place", 699, x::fault);
        Check.tell(x, " ".repeat(695) + "clerk");
        due("the text's length", 700, x::fault);
        Check.tell(x, "clerk;");
        due("none", -1, x::fault);
        Check.tell(x, "clerk");
        due("the text's length", 5, x::fault);
        due("of nothing", 0, () -> x.catalogue(0));
        due("none", -1, x::fault);
        due("three refused texts and one more", 4, () -> x.count(6));
    }

    // ---- Promise 5 ----

    private static void promise5() {
        MeerDrawers x = Check.told(Drawers.TEN + Drawers.FORTH.repeat(4));
        due("10 cards", 10, () -> x.count(0));
        due("4 clerks", 4, () -> x.count(1));
        for (int card = 0; card < 10; card++) {
            int inIt = card + 1;
            x.put(card, 0);
            due(inIt + " in it", inIt, () -> x.count(2));
            due(inIt + " as bits", (1 << inIt) - 1, () -> x.count(3));
            due(inIt + " acts", inIt, () -> x.count(4));
        }
        for (int what : Drawers.outside(8)) {
            noSuch("count " + what, () -> x.count(what));
        }
        for (int card = 0; card < 10; card++) {
            x.take(card);
        }
        due("none in it", 0, () -> x.count(2));
        due("none as bits", 0, () -> x.count(3));
        due("20 acts", 20, () -> x.count(4));
        x.put(9, 0);
        due("the last one's bit", 512, () -> x.count(3));
    }

    // ---- Promise 6 ----

    private static void promise6() {
        MeerDrawers x = Drawers.standing("card 0 a;card 999 " + "abcdefgh ".repeat(4) + ";card 5 b;" + "clerk;".repeat(4),
                2, 0);
        int[][] want = {{0, 1, 1, 1, 15}, {999, 4, 32, -1, 0}, {5, 1, 1, 0, 0}};
        for (int card = 0; card < 3; card++) {
            for (int what = 0; what < 5; what++) {
                int c = card;
                int w = what;
                due("card " + c + " " + w, want[c][w], () -> x.card(c, w));
            }
        }
        for (int card : Drawers.outside(3)) {
            noSuch("card " + card, () -> x.card(card, 0));
            noSuch("card " + card + " and no such what", () -> x.card(card, 5));
        }
        for (int what : Drawers.outside(5)) {
            noSuch("card 0 " + what, () -> x.card(0, what));
        }
        due("without clerks it is first by none", 0, () -> Check.told("card 0 a;").card(0, 4));
        due("the only card is first by all", 15, () -> Check.told("card 0 a;" + "clerk;".repeat(4)).card(0, 4));
        MeerDrawers full = Drawers.standing(Drawers.TEN + "clerk;", Drawers.upTo(10));
        due("the first place", 0, () -> full.card(0, 3));
        due("the last place", 9, () -> full.card(9, 3));
        MeerDrawers parted = Check.told(Drawers.TEN + "clerk;" + Drawers.BACK + "clerk;" + Drawers.BACK);
        due("first by 0 and 2", 5, () -> parted.card(0, 4));
        due("first by 1 and 3", 10, () -> parted.card(9, 4));
        due("first by none", 0, () -> parted.card(5, 4));
    }

    // ---- Promise 7 ----

    private static void promise7() {
        MeerDrawers empty = Check.told(Drawers.TEN + "clerk;");
        for (int what = 4; what <= 6; what++) {
            int asked = what;
            due("an empty drawer, " + asked, 0, () -> empty.clerk(0, asked));
        }
        int[] looks = {0, 1, 2, 2, 3, 3, 3, 3, 4, 4, 4};
        for (int many = 0; many <= 10; many++) {
            int size = many;
            MeerDrawers x = Drawers.standing(Drawers.TEN + Drawers.FORTH + Drawers.BACK, Drawers.upTo(size));
            due("nothing is wrong of " + size, 0, () -> x.clerk(0, 4));
            due("all is wrong of " + size, size * (size - 1) / 2, () -> x.clerk(1, 4));
            due("none must be moved of " + size, 0, () -> x.clerk(0, 5));
            due("all but one must be moved of " + size, Math.max(0, size - 1), () -> x.clerk(1, 5));
            due("most looks of " + size, looks[size], () -> x.clerk(0, 6));
        }
        for (int clerk : Drawers.outside(1)) {
            noSuch("clerk " + clerk, () -> empty.clerk(clerk, 0));
            noSuch("clerk " + clerk + " and no such what", () -> empty.clerk(clerk, 7));
        }
        for (int what : Drawers.outside(7)) {
            noSuch("clerk 0 " + what, () -> empty.clerk(0, what));
        }
        due("without cards", 0, () -> Check.told("clerk;").clerk(0, 6));
        due("one card in all", 1, () -> Drawers.standing("card 0 a;clerk;", 0).clerk(0, 6));
        due("only the first card needs two looks", 2, () -> Drawers.standing("card 0 c;card 0 b;card 0 a;clerk;", 1, 2)
                .clerk(0, 6));
        // In b a only c, which is not in it, needs a second look.
        MeerDrawers x = Drawers.standing("card 0 b;card 0 a;card 0 c;clerk;", 0, 1);
        due("looks for a card that is out", 2, () -> x.clerk(0, 6));
    }

    // ---- Promise 8 and the key ----

    private static void keyIs(MeerDrawers x, int clerk, int card, String key) {
        due("how many of " + key, key.length(), () -> x.key(clerk, card, -1));
        for (int i = 0; i < key.length(); i++) {
            int at = i;
            int sign = key.charAt(at) == ' ' ? 0 : key.charAt(at) - 'a' + 1;
            due(key + " at " + at, sign, () -> x.key(clerk, card, at));
        }
        for (int i : Drawers.outside(key.length())) {
            if (i != -1) {
                noSuch(key + " at " + i, () -> x.key(clerk, card, i));
            }
        }
    }

    private static void promise8() {
        MeerDrawers x = Check.told("card 0 a;card 0 z;card 0 " + "abcdefgh ".repeat(4) + ";clerk;clerk;join;clerk;turn;");
        for (int clerk = 0; clerk < 3; clerk++) {
            keyIs(x, clerk, 0, "a");
            keyIs(x, clerk, 1, "z");
        }
        keyIs(x, 0, 2, "abcdefgh abcdefgh abcdefgh abcdefgh");
        keyIs(x, 1, 2, "abcdefgh".repeat(4));
        for (int other : Drawers.outside(3)) {
            noSuch("key by " + other, () -> x.key(other, 0, -1));
            noSuch("key of " + other, () -> x.key(0, other, -1));
        }
        // The last word is never passed over; the first one is, whatever it was before.
        MeerDrawers y = Check.told("card 0 the;card 0 the the;card 0 the the the the;card 0 the sea the;card 0 sea the;"
                + "clerk;skip the;clerk;skip the;turn;clerk;skip the;skip sea;clerk;spell sea the;skip the;turn;");
        String[][] keys = {{"the", "the", "the", "sea the", "sea the"}, {"the", "the", "the", "the sea", "the sea"},
            {"the", "the", "the", "the", "the"}, {"the", "the", "the", "the", "the"}};
        for (int clerk = 0; clerk < 4; clerk++) {
            for (int card = 0; card < 5; card++) {
                keyIs(y, clerk, card, keys[clerk][card]);
            }
        }
        // Once: what comes of it is not spelled, not folded again; a skip is of what comes of both.
        MeerDrawers z = Check.told("card 0 ab c;card 0 a b;clerk;spell ab ba;spell ba ab;clerk;fold a b;fold b a;"
                + "clerk;spell a b;spell b a;fold b c;fold a b;skip b;clerk;spell a b;fold b c;skip c;skip a;");
        keyIs(z, 0, 0, "ba c");
        keyIs(z, 1, 0, "ba c");
        keyIs(z, 2, 1, "c b");
        keyIs(z, 3, 1, "c");
        fullRules();
    }

    /** Eight rules are all obeyed, the first and the last alike, and z and a are letters as all others. */
    private static void fullRules() {
        MeerDrawers x = Check.told("card 0 abcd efgh;card 0 z a;card 0 a b c d;clerk;"
                + "fold a z;fold b y;fold c x;fold d w;fold e v;fold f u;fold g t;fold h s;"
                + "clerk;skip z;skip y;skip x;skip w;skip a;skip b;skip c;skip d;"
                + "clerk;spell z e;spell y e;spell x e;spell w e;spell d e;spell c e;spell b e;spell a zzzzzzzz;");
        keyIs(x, 0, 0, "zyxw vuts");
        keyIs(x, 0, 1, "z z");
        keyIs(x, 1, 1, "a");
        keyIs(x, 1, 2, "d");
        keyIs(x, 2, 1, "e zzzzzzzz");
        keyIs(x, 2, 2, "zzzzzzzz e e e");
        MeerDrawers y = Check.told("card 0 a b c d;clerk;spell a aaaaaaaa;spell b bbbbbbbb;spell c cccccccc;spell d dddddddd;");
        keyIs(y, 0, 0, "aaaaaaaa bbbbbbbb cccccccc dddddddd");
    }

    // ---- Promises 9 to 11 ----

    private static void inOrder(MeerDrawers x, int clerk, int... row) {
        for (int i = 0; i < row.length; i++) {
            for (int j = 0; j < row.length; j++) {
                int one = row[i];
                int other = row[j];
                due("clerk " + clerk + ": " + one + " before " + other, i < j ? 1 : 0,
                        () -> x.before(clerk, one, other) ? 1 : 0);
            }
            int rank = i;
            due("clerk " + clerk + ": rank of " + row[rank], rank, () -> x.rank(clerk, row[rank]));
            due("clerk " + clerk + ": at " + rank, row[rank], () -> x.at(clerk, rank));
        }
    }

    private static void promises9To11() {
        MeerDrawers x = Check.told("card 9 b;card 3 a b;card 3 ab;card 3 a;card 2 b;card 2 b;card 0 abc;"
                + "clerk;clerk;join;clerk;tie 0-year;clerk;tie 0-number;");
        inOrder(x, 0, 3, 1, 2, 6, 4, 5, 0);
        inOrder(x, 1, 3, 1, 2, 6, 4, 5, 0);
        inOrder(x, 2, 3, 1, 2, 6, 0, 4, 5);
        inOrder(x, 3, 3, 1, 2, 6, 5, 4, 0);
        for (int other : Drawers.outside(7)) {
            noSuch("before of " + other, () -> x.before(0, other, 0) ? 1 : 0);
            noSuch("before " + other, () -> x.before(0, 0, other) ? 1 : 0);
            noSuch("before of " + other + " and itself", () -> x.before(0, other, other) ? 1 : 0);
            noSuch("rank of " + other, () -> x.rank(0, other));
            noSuch("at " + other, () -> x.at(0, other));
        }
        for (int clerk : Drawers.outside(4)) {
            noSuch("before by " + clerk, () -> x.before(clerk, 0, 1) ? 1 : 0);
            noSuch("rank by " + clerk, () -> x.rank(clerk, 0));
            noSuch("at by " + clerk, () -> x.at(clerk, 0));
        }
        inOrder(Check.told(Drawers.TEN + "clerk;"), 0, Drawers.upTo(10));
        inOrder(Check.told(Drawers.TEN + Drawers.BACK), 0, 9, 8, 7, 6, 5, 4, 3, 2, 1, 0);
        inOrder(Check.told("card 0 a;clerk;"), 0, 0);
        noSuch("at 0 without cards", () -> Check.told("clerk;").at(0, 0));
        keysDifferAtTheirLastSign();
        tiesAtTheirEdges();
    }

    private static void keysDifferAtTheirLastSign() {
        String seven = "abcdefg";
        String same = "abcdefgh abcdefgh abcdefgh ";
        MeerDrawers x = Check.told("card 0 " + same + seven + "b;card 9 " + same + seven + "a;card 5 " + same + seven
                + ";card 7 " + same + "z;clerk;clerk;join;clerk;turn;");
        inOrder(x, 0, 2, 1, 0, 3);
        inOrder(x, 1, 2, 1, 0, 3);
        inOrder(x, 2, 2, 1, 0, 3);
    }

    /** The less number first, however far the two are apart. */
    private static void tiesAtTheirEdges() {
        String least = "8192*8192*32";
        MeerDrawers x = Check.told("card 0 a;card 999 a;clerk;tie " + least + "-number;clerk;tie " + least + "-1+number;"
                + "clerk;tie 0;clerk;");
        inOrder(x, 0, 0, 1);
        inOrder(x, 1, 1, 0);
        inOrder(x, 2, 0, 1);
        inOrder(x, 3, 0, 1);
        inOrder(Check.told("card 999 a;card 0 a;clerk;clerk;tie 0;"), 0, 1, 0);
        inOrder(Check.told("card 999 a;card 0 a;clerk;clerk;tie 0;"), 1, 0, 1);
    }

    // ---- Promises 12 to 16 ----

    private static void promise12() {
        MeerDrawers x = Check.told(Drawers.TEN + "clerk;");
        for (int place : Drawers.outside(0)) {
            noSuch("an empty drawer at " + place, () -> x.drawer(place));
        }
        for (int card = 0; card < 10; card++) {
            x.put(card, 0);
            rowIs(card + 1 + " in it", x, Drawers.upTo(card + 1));
        }
        for (int place : Drawers.outside(10)) {
            noSuch("a full drawer at " + place, () -> x.drawer(place));
        }
    }

    private static void promise13() {
        MeerDrawers x = Check.told("card 0 b;card 0 a;card 0 c;card 0 b;clerk;" + Drawers.BACK);
        due("into the empty drawer", 0, () -> x.put(0, 0));
        due("ahead of all", 0, () -> x.put(1, 0));
        due("behind all", 2, () -> x.put(2, 0));
        due("ahead of the first that it goes before: b, by the tie", 1, () -> x.put(3, 1));
        rowIs("a b b c", x, 1, 3, 0, 2);
        for (int card = 0; card < 4; card++) {
            int inIt = card;
            due("it is in it: " + inIt, -1, () -> x.put(inIt, 0));
            due("refused " + (inIt + 1), inIt + 1, () -> x.count(7));
        }
        for (int other : Drawers.outside(4)) {
            noSuch("no card " + other, () -> x.put(other, 0));
            noSuch("neither " + other, () -> x.put(other, other));
        }
        for (int other : Drawers.outside(2)) {
            noSuch("no clerk " + other + ", though it is in it", () -> x.put(0, other));
        }
        due("those are no refused acts", 4, () -> x.count(7));
        due("four acts", 4, () -> x.count(4));
        rowIs("a b b c still", x, 1, 3, 0, 2);
        MeerDrawers y = Drawers.standing("card 0 a;card 0 b;card 0 c;clerk;", 2, 0);
        due("c a: ahead of the first that b goes before, not of the last", 0, () -> y.put(1, 0));
        rowIs("b c a", y, 1, 2, 0);
    }

    private static void promise14() {
        MeerDrawers x = Drawers.standing(Drawers.TEN + "clerk;", Drawers.upTo(10));
        due("the last", 9, () -> x.take(9));
        due("the first", 0, () -> x.take(0));
        due("one between", 3, () -> x.take(4));
        rowIs("seven are left", x, 1, 2, 3, 5, 6, 7, 8);
        for (int card : new int[] {0, 4, 9}) {
            due("it is out: " + card, -1, () -> x.take(card));
        }
        due("refused", 3, () -> x.count(7));
        for (int card : Drawers.outside(10)) {
            noSuch("no card " + card, () -> x.take(card));
        }
        due("those are no refused acts", 3, () -> x.count(7));
        rowIs("seven still", x, 1, 2, 3, 5, 6, 7, 8);
        MeerDrawers y = Check.told("card 0 a;clerk;");
        due("of an empty drawer", -1, () -> y.take(0));
        due("no act", 0, () -> y.count(4));
        y.put(0, 0);
        due("the only one", 0, () -> y.take(0));
        rowIs("empty", y);
        due("two acts", 2, () -> y.count(4));
    }

    private static void promise15() {
        MeerDrawers x = Drawers.standing("card 0 a;card 0 b;card 0 c;card 0 d;clerk;", 0, 1, 2);
        due("to the end", 0, () -> x.move(0, 2));
        rowIs("b c a", x, 1, 2, 0);
        due("to the beginning", 2, () -> x.move(0, 0));
        rowIs("a b c", x, 0, 1, 2);
        due("one on", 0, () -> x.move(0, 1));
        rowIs("b a c", x, 1, 0, 2);
        due("one back", 1, () -> x.move(0, 0));
        rowIs("a b c again", x, 0, 1, 2);
        due("acts", 10, () -> x.count(4));
        int refused = 0;
        for (int place : Drawers.outside(3)) {
            refused++;
            int due = refused;
            due("no such place " + place, -1, () -> x.move(1, place));
            due("refused", due, () -> x.count(7));
        }
        due("it isn't in it", -1, () -> x.move(3, 0));
        due("it isn't in it, and no such place", -1, () -> x.move(3, 3));
        int twoMore = refused + 2;
        due("refused, each once", twoMore, () -> x.count(7));
        for (int card : Drawers.outside(4)) {
            noSuch("no card " + card, () -> x.move(card, 0));
            noSuch("no card " + card + " and no such place", () -> x.move(card, 99));
        }
        due("those are no refused acts", twoMore, () -> x.count(7));
        due("no acts", 10, () -> x.count(4));
        rowIs("a b c still", x, 0, 1, 2);
        MeerDrawers full = Drawers.standing(Drawers.TEN + "clerk;", Drawers.upTo(10));
        due("from one end of a full drawer to the other", 9, () -> full.move(9, 0));
        rowIs("moved", full, 9, 0, 1, 2, 3, 4, 5, 6, 7, 8);
        due("beyond a full drawer", -1, () -> full.move(9, 10));
        due("back", 0, () -> full.move(9, 9));
        rowIs("moved back", full, Drawers.upTo(10));
        MeerDrawers empty = Check.told("card 0 a;clerk;");
        due("in an empty drawer", -1, () -> empty.move(0, 0));
        empty.put(0, 0);
        due("the only one", 0, () -> empty.move(0, 0));
        due("behind the only one", -1, () -> empty.move(0, 1));
    }

    private static void promise16() {
        MeerDrawers x = Check.told(Drawers.TEN + Drawers.FORTH + Drawers.BACK);
        due("an empty drawer", 0, () -> x.file(0));
        x.put(5, 0);
        due("one card", 0, () -> x.file(1));
        x.put(6, 0);
        due("filed already", 0, () -> x.file(0));
        rowIs("5 6", x, 5, 6);
        due("both elsewhere", 2, () -> x.file(1));
        rowIs("6 5", x, 6, 5);
        for (int clerk : Drawers.outside(2)) {
            noSuch("no clerk " + clerk, () -> x.file(clerk));
        }
        due("no refused acts", 0, () -> x.count(7));
        due("acts: four filed, two put", 6, () -> x.count(4));
        MeerDrawers full = Drawers.standing(Drawers.TEN + Drawers.FORTH + Drawers.BACK, Drawers.upTo(10));
        due("all ten elsewhere", 10, () -> full.file(1));
        rowIs("back", full, 9, 8, 7, 6, 5, 4, 3, 2, 1, 0);
        full.take(4);
        due("all nine but that in the middle", 8, () -> full.file(0));
        rowIs("forth", full, 0, 1, 2, 3, 5, 6, 7, 8, 9);
    }

    // ---- Promise 17, "ACTS (at most 40 are kept, the latest ones)" ----

    private static void promise17() {
        for (int acts : new int[] {0, 1, 2, 38, 39, 40, 41, 42, 80, 81, 120}) {
            MeerDrawers x = Check.told("card 0 a;clerk;");
            Drawers.actSoOften(x, 0, acts);
            int kept = Math.min(acts, 40);
            due(acts + " acts, kept", kept, () -> x.count(4));
            for (int left = kept - 1; left >= 0; left--) {
                int due = left;
                due(acts + " acts, undone", due, x::undo);
                int inIt = (acts - kept + left) % 2;
                due(acts + " acts, in it", inIt, () -> x.count(2));
            }
            due(acts + " acts, none is left", -1, x::undo);
            due(acts + " acts, still none", -1, x::undo);
            due(acts + " acts, none kept", 0, () -> x.count(4));
            due(acts + " acts, no refused act", 0, () -> x.count(7));
        }
        everyKindIsUndone();
        undoneAndActedAnew();
    }

    private static void everyKindIsUndone() {
        MeerDrawers x = Drawers.standing(Drawers.TEN + Drawers.FORTH + Drawers.BACK, Drawers.upTo(10));
        x.move(0, 9);
        x.file(1);
        x.take(9);
        x.take(4);
        x.put(9, 0);
        rowIs("acted", x, 8, 7, 6, 5, 3, 2, 1, 0, 9);
        due("put", 24, x::undo);
        rowIs("put undone", x, 8, 7, 6, 5, 3, 2, 1, 0);
        due("take", 23, x::undo);
        rowIs("take undone", x, 8, 7, 6, 5, 4, 3, 2, 1, 0);
        due("take of the first", 22, x::undo);
        rowIs("take of the first undone", x, 9, 8, 7, 6, 5, 4, 3, 2, 1, 0);
        due("file", 21, x::undo);
        rowIs("file undone", x, 1, 2, 3, 4, 5, 6, 7, 8, 9, 0);
        due("move", 20, x::undo);
        rowIs("move undone", x, Drawers.upTo(10));
    }

    private static void undoneAndActedAnew() {
        MeerDrawers x = Check.told("card 0 a;card 0 b;clerk;");
        Drawers.actSoOften(x, 0, 41);
        due("undo", 39, x::undo);
        x.put(1, 0);
        due("40 again", 40, () -> x.count(4));
        x.put(0, 0);
        due("not more", 40, () -> x.count(4));
        due("undo", 39, x::undo);
        rowIs("b", x, 1);
        due("undo", 38, x::undo);
        rowIs("empty", x);
        due("undo", 37, x::undo);
        rowIs("a", x, 0);
        // A refused act and one that throws are not kept, nor do they push another one out.
        Drawers.actSoOften(x, 1, 3);
        due("40", 40, () -> x.count(4));
        due("refused", -1, () -> x.put(1, 0));
        noSuch("thrown", () -> x.put(2, 0));
        due("40 still", 40, () -> x.count(4));
        for (int left = 39; left >= 0; left--) {
            int due = left;
            due("undo to " + due, due, x::undo);
        }
        due("no more", -1, x::undo);
    }

    // ---- Promises 39 and 40 ----

    private static void promises39And40() {
        MeerDrawers x = new MeerDrawers();
        due("none", 0, () -> x.restore() ? 1 : 0);
        x.image();
        due("an image of nothing", 1, () -> x.restore() ? 1 : 0);
        due("a fault leaves it", 1, () -> Check.tell(x, "clerk"));
        due("it is there", 1, () -> x.restore() ? 1 : 0);
        due("a text takes it", 0, () -> Check.tell(x, Drawers.TEN + Drawers.FORTH + Drawers.BACK));
        due("it is gone", 0, () -> x.restore() ? 1 : 0);
        x.image();
        for (int card = 0; card < 10; card++) {
            x.put(card, 0);
        }
        due("the empty drawer again", 1, () -> x.restore() ? 1 : 0);
        rowIs("empty", x);
        due("no acts", 0, () -> x.count(4));
        due("none to undo", -1, x::undo);
        imageOfAll();
        restoreWithout();
    }

    /** The full drawer with all forty acts, and none of them lost by forty others. */
    private static void imageOfAll() {
        MeerDrawers x = Check.told(Drawers.TEN + Drawers.FORTH + Drawers.BACK);
        Drawers.actSoOften(x, 0, 30);
        for (int card = 0; card < 10; card++) {
            x.put(card, 1);
        }
        due("40 acts", 40, () -> x.count(4));
        x.image();
        x.file(0);
        for (int card = 0; card < 10; card++) {
            x.take(card);
        }
        Drawers.actSoOften(x, 3, 45);
        due("restored", 1, () -> x.restore() ? 1 : 0);
        rowIs("the full drawer", x, 9, 8, 7, 6, 5, 4, 3, 2, 1, 0);
        due("its acts", 40, () -> x.count(4));
        due("the last is undone", 39, x::undo);
        rowIs("nine", x, 8, 7, 6, 5, 4, 3, 2, 1, 0);
        x.put(9, 0);
        due("restored once more", 1, () -> x.restore() ? 1 : 0);
        for (int left = 39; left >= 0; left--) {
            int due = left;
            due("undo to " + due, due, x::undo);
        }
        rowIs("empty", x);
        due("no more", -1, x::undo);
        due("the image is still there", 1, () -> x.restore() ? 1 : 0);
        rowIs("the full drawer again", x, 9, 8, 7, 6, 5, 4, 3, 2, 1, 0);
    }

    /** Neither call is an act, and neither touches what is no part of the image. */
    private static void restoreWithout() {
        MeerDrawers x = Drawers.standing(Drawers.TEN + Drawers.FORTH + Drawers.BACK, 1, 0, 2);
        x.image();
        due("no act", 6, () -> x.count(4));
        x.feed(0, 0, 0, 0, 0);
        x.put(0, 0);
        due("stay", 2, () -> x.stay(0));
        x.file(1);
        due("restored", 1, () -> x.restore() ? 1 : 0);
        due("no act either", 6, () -> x.count(4));
        due("the tape stays", 20, () -> x.count(5));
        due("status stays", 1, () -> x.count(7));
        due("the kept row stays", 1, () -> x.stays(0));
        due("the kept row stays", 2, () -> x.stays(1));
        x.take(1);
        x.image();
        x.take(0);
        due("the later image", 1, () -> x.restore() ? 1 : 0);
        rowIs("in place of the first one", x, 0, 2);
        due("with its acts", 7, () -> x.count(4));
    }

    public static void main(String[] args) {
        promise1();
        promise2();
        promise3();
        promise4();
        promise5();
        promise6();
        promise7();
        promise8();
        promises9To11();
        promise12();
        promise13();
        promise14();
        promise15();
        promise16();
        promise17();
        promises39And40();
        CHECK.end();
    }
}
