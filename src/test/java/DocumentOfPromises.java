/** The promises of the document, one by one. */
final class DocumentOfPromises {
    /** Clerk 0 files 0 1 2 3, clerk 1 files 3 2 1 0; card 4 is alike to card 0. */
    private static final String FIVE = "card 7 a;card 5 b;card 0 c;card 999 d;card 7 a;";
    private static final String TWO_CLERKS = "clerk;clerk;fold a d;fold b c;fold c b;fold d a;";
    private static final String TEXT = FIVE + TWO_CLERKS;
    private static final int BLANKS = 0x20202020;

    private DocumentOfPromises() {
    }

    static void read(Sentences doc) {
        doc.says("The constants: `NONE = -1`: There is none.");
        doc.due("NONE", -1, () -> MeerDrawers.NONE);
        promises1And2(doc);
        promise3(doc);
        promises4And5(doc);
        promise6(doc);
        promise7(doc);
        promises8And9(doc);
        promises10To12(doc);
        promises13And14(doc);
        promises15To17(doc);
        promises18And19(doc);
        promises20To23(doc);
        promises24To27(doc);
        promises28And29(doc);
        promises30And31(doc);
        promise32(doc);
        promises33To35(doc);
        promises36And37(doc);
        promise38(doc);
        promises39And40(doc);
    }

    private static MeerDrawers standing(int... row) {
        return Drawers.standing(TEXT, row);
    }

    /** Numbers below 0 and from a bound on. */
    private static int[] outside(int bound) {
        return new int[] {-1, bound, Integer.MIN_VALUE, Integer.MAX_VALUE};
    }

    /** Of a call that takes a number, each that names nothing. */
    private interface Named {
        long ask(int number);
    }

    private static void noSuch(Sentences doc, String call, int bound, Named asked) {
        for (int number : outside(bound)) {
            doc.noSuch(call + " " + number, () -> asked.ask(number));
        }
    }

    /** As above, but -1 asks for something else. */
    private static void noSuchButNone(Sentences doc, String call, int bound, Named asked) {
        for (int number : new int[] {-2, bound, Integer.MIN_VALUE, Integer.MAX_VALUE}) {
            doc.noSuch(call + " " + number, () -> asked.ask(number));
        }
    }

    private static void illegal(Sentences doc, String call, int least, int most, Named asked) {
        for (int number : new int[] {least - 1, most + 1, Integer.MIN_VALUE, Integer.MAX_VALUE}) {
            doc.illegal(call + " " + number, () -> asked.ask(number));
        }
    }

    private static void promises1And2(Sentences doc) {
        doc.says("`MeerDrawers()`: No CARDS, no CLERKS.");
        doc.due("cards", 0, () -> new MeerDrawers().count(0));
        doc.due("clerks", 0, () -> new MeerDrawers().count(1));
        doc.noSuch("card 0", () -> new MeerDrawers().card(0, 0));
        doc.noSuch("clerk 0", () -> new MeerDrawers().clerk(0, 0));
        doc.says("`int feed(int a, int b, int c, int d, int e)`: Twenty bytes come behind the tape, of each number the "
                + "highest first: how many it has; NONE, and none come, if it would have more than 700.");
        MeerDrawers x = new MeerDrawers();
        // 'card 5 abc;card 6 de' and '; clerk;   ..'.
        doc.due("the first twenty", 20, () -> x.feed(0x63617264, 0x20352061, 0x62633b63, 0x61726420, 0x36206465));
        doc.due("the next twenty", 40, () -> x.feed(0x3b20636c, 0x65726b3b, BLANKS, BLANKS, BLANKS));
        doc.due("they are a text", 0, () -> x.catalogue(40));
        doc.key(x, 0, 0, "abc");
        doc.key(x, 0, 1, "de");
        for (int bytes = 20; bytes <= 700; bytes += 20) {
            int due = bytes;
            doc.due("so many", due, () -> x.feed(BLANKS, BLANKS, BLANKS, BLANKS, BLANKS));
        }
        doc.due("more than 700", -1, () -> x.feed(0, 0, 0, 0, 0));
        doc.due("none come", 700, () -> x.count(5));
        doc.due("none is another one", 0, () -> x.catalogue(700));
    }

    private static MeerDrawers used() {
        MeerDrawers x = standing(2, 0, 1);
        x.stay(0);
        x.image();
        x.take(4);
        Check.tell(x, "clerk;;");
        return x;
    }

    private static void promise3(Sentences doc) {
        doc.says("`int catalogue(int n) throws IllegalArgumentException`: The tape's first n bytes (it is empty then) are a "
                + "CATALOGUE, all anew: 0, or the FAULT (all stays).");
        MeerDrawers x = used();
        Check.feed(x, "clerk;clerk;skip a;clerk;turn;!".getBytes());
        doc.due("a fault", 1, () -> x.catalogue(31));
        doc.due("the tape is empty", 0, () -> x.count(5));
        doc.due("cards stay", 5, () -> x.count(0));
        doc.due("clerks stay", 2, () -> x.count(1));
        doc.due("rules stay", 4, () -> x.clerk(1, 0));
        doc.row(x, 2, 0, 1);
        doc.due("acts stay", 6, () -> x.count(4));
        doc.due("the kept row stays", 0, () -> x.stays(0));
        doc.yes("the image stays", x.restore());
        Check.feed(x, "clerk;clerk;skip a;clerk;turn;!".getBytes());
        doc.due("the first bytes alone", 0, () -> x.catalogue(19));
        doc.due("the tape is empty", 0, () -> x.count(5));
        doc.due("cards", 0, () -> x.count(0));
        doc.due("clerks", 2, () -> x.count(1));
        doc.due("rules", 1, () -> x.clerk(1, 0));
        doc.says("THE DRAWER is empty, ACTS, rows that are kept, the image are gone (STATUS stays).");
        doc.row(x);
        doc.due("acts", 0, () -> x.count(4));
        doc.noSuch("the kept row", () -> x.stays(0));
        doc.yes("the image", !x.restore());
        doc.due("texts refused", 2, () -> x.count(6));
        doc.due("acts refused", 1, () -> x.count(7));
        doc.says("IllegalArgumentException: the tape has not so many, n below 0 (nothing changes).");
        MeerDrawers y = used();
        Check.feed(y, "clerk;".getBytes());
        illegal(doc, "catalogue", 0, 20, y::catalogue);
        doc.due("the tape", 20, () -> y.count(5));
        doc.due("the fault's place", 6, y::fault);
        doc.due("texts refused", 1, () -> y.count(6));
        doc.row(y, 2, 0, 1);
        doc.due("cards", 5, () -> y.count(0));
    }

    private static void promises4And5(Sentences doc) {
        doc.says("`int fault()`: The place of the latest catalogue()'s FAULT; NONE without.");
        MeerDrawers x = new MeerDrawers();
        doc.due("no catalogue yet", -1, x::fault);
        Check.tell(x, "card 1 a;card 1 5;");
        doc.due("a fault", 16, x::fault);
        Check.tell(x, "clerk;turn;  turn;");
        doc.due("another one", 13, x::fault);
        Check.tell(x, "clerk;");
        doc.due("none", -1, x::fault);
        doc.says("`int count(int what) throws NoSuchElementException`: 0 CARDS, 1 CLERKS, 2 CARDS in THE DRAWER, 3 these as "
                + "bits, 4 ACTS that are kept, 5 bytes of the tape, 6 and 7 STATUS 0 and 1.");
        MeerDrawers y = used();
        y.feed(0, 0, 0, 0, 0);
        y.take(3);
        int[] want = {5, 2, 3, 7, 6, 20, 1, 2};
        for (int what = 0; what < 8; what++) {
            int w = what;
            doc.due("count " + w, want[w], () -> y.count(w));
        }
        doc.says("NoSuchElementException: another what.");
        noSuch(doc, "count", 8, y::count);
    }

    private static void promise6(Sentences doc) {
        doc.says("`int card(int card, int what) throws NoSuchElementException`: Of a CARD: 0 YEAR, 1 WORDS, 2 letters, 3 its "
                + "place in THE DRAWER (NONE), 4 by which CLERKS it is the first of all (bits).");
        MeerDrawers x = Drawers.standing("card 7 b;card 5 zz ab abc;card 0 a c;clerk;clerk;turn;clerk;fold z a;", 2, 0);
        // b, ab abc zz: by turning abc zz ab, b, c a; by folding a c, aa ab abc, b.
        int[][] want = {{7, 1, 1, 1, 0}, {5, 3, 7, -1, 2}, {0, 2, 2, 0, 5}};
        for (int card = 0; card < 3; card++) {
            for (int what = 0; what < 5; what++) {
                int c = card;
                int w = what;
                doc.due("card " + c + " " + w, want[c][w], () -> x.card(c, w));
            }
        }
        doc.says("NoSuchElementException: no such CARD (as everywhere), what.");
        noSuch(doc, "card", 3, card -> x.card(card, 0));
        noSuch(doc, "card what", 5, what -> x.card(0, what));
        MeerDrawers y = standing(2, 0, 1);
        noSuch(doc, "key", 5, card -> y.key(0, card, -1));
        noSuch(doc, "before", 5, card -> y.before(0, card, 0) ? 1 : 0);
        noSuch(doc, "before other", 5, card -> y.before(0, 0, card) ? 1 : 0);
        noSuch(doc, "rank", 5, card -> y.rank(0, card));
        noSuch(doc, "put", 5, card -> y.put(card, 0));
        noSuch(doc, "take", 5, y::take);
        noSuch(doc, "move", 5, card -> y.move(card, 0));
        noSuch(doc, "votes", 5, card -> y.votes(card, 0));
        noSuch(doc, "votes other", 5, card -> y.votes(0, card));
        noSuch(doc, "search", 5, card -> y.search(0, card, 0));
        noSuch(doc, "reader", 5, card -> y.reader(0, card, 0));
        noSuch(doc, "off", 5, card -> y.off(0, card));
        doc.due("none of them is a refused act", 0, () -> y.count(7));
    }

    private static void promise7(Sentences doc) {
        doc.says("`int clerk(int clerk, int what) throws NoSuchElementException`: Of a CLERK: 0 how many RULES, 1 TURN (1), 2 "
                + "JOIN (1), 3 whether he has a TIE (1), 4 WRONG, 5 MOVING, 6 MOST LOOKS.");
        MeerDrawers x = Drawers.standing(FIVE + "clerk;skip x;spell y z;turn;clerk;fold a z;join;tie 1;", 2, 0, 1);
        // Clerk 0 files 0 1 2, clerk 1 files 1 2 0. To 3, which is out, it is a look more by each than to the middle.
        int[][] want = {{2, 1, 0, 0, 2, 1, 2}, {1, 0, 1, 1, 2, 1, 2}};
        for (int clerk = 0; clerk < 2; clerk++) {
            for (int what = 0; what < 7; what++) {
                int k = clerk;
                int w = what;
                doc.due("clerk " + k + " " + w, want[k][w], () -> x.clerk(k, w));
            }
        }
        doc.says("NoSuchElementException: no such CLERK (as everywhere), what.");
        noSuch(doc, "clerk", 2, clerk -> x.clerk(clerk, 0));
        noSuch(doc, "clerk what", 7, what -> x.clerk(0, what));
        noSuch(doc, "key", 2, clerk -> x.key(clerk, 0, -1));
        noSuch(doc, "before", 2, clerk -> x.before(clerk, 0, 1) ? 1 : 0);
        noSuch(doc, "rank", 2, clerk -> x.rank(clerk, 0));
        noSuch(doc, "at", 2, clerk -> x.at(clerk, 0));
        noSuch(doc, "put", 2, clerk -> x.put(3, clerk));
        noSuch(doc, "file", 2, x::file);
        noSuch(doc, "differ", 2, clerk -> x.differ(clerk, 0, 0));
        noSuch(doc, "differ other", 2, clerk -> x.differ(0, clerk, 0));
        noSuch(doc, "stay", 2, x::stay);
        noSuch(doc, "search", 2, clerk -> x.search(clerk, 0, 0));
        noSuch(doc, "matters", 2, clerk -> x.matters(clerk, -1));
        noSuch(doc, "reader", 2, clerk -> x.reader(clerk, 0, 0));
        noSuch(doc, "game", 2, clerk -> x.game(clerk, 0, 0, 0));
        noSuch(doc, "game other", 2, clerk -> x.game(0, clerk, 0, 0));
        noSuch(doc, "off", 2, clerk -> x.off(clerk, 0));
        noSuch(doc, "worst", 2, clerk -> x.worst(clerk, 0));
        noSuch(doc, "trays", 2, clerk -> x.trays(clerk, 1, -1));
        doc.row(x, 2, 0, 1);
    }

    private static void promises8And9(Sentences doc) {
        MeerDrawers x = Check.told("card 1 sea lion;card 2 seal;card 2 seal;clerk;clerk;join;");
        doc.says("`int key(int clerk, int card, int i) throws NoSuchElementException`: The KEY: the i-th of it (0 to 26); how "
                + "many it has (i NONE).");
        doc.key(x, 0, 0, "sea lion");
        doc.key(x, 1, 0, "sealion");
        doc.key(x, 0, 1, "seal");
        doc.says("NoSuchElementException: also there is none.");
        noSuchButNone(doc, "key at", 8, i -> x.key(0, 0, i));
        noSuchButNone(doc, "key joined at", 7, i -> x.key(1, 0, i));
        doc.says("`boolean before(int clerk, int card, int other) throws NoSuchElementException`: Whether a CARD GOES BEFORE "
                + "another one (false of one and itself).");
        boolean[][][] want = {{{false, true, true}, {false, false, true}, {false, false, false}},
            {{false, false, false}, {true, false, true}, {true, false, false}}};
        for (int clerk = 0; clerk < 2; clerk++) {
            for (int card = 0; card < 3; card++) {
                for (int other = 0; other < 3; other++) {
                    doc.yes("before " + clerk + " " + card + " " + other,
                            x.before(clerk, card, other) == want[clerk][card][other]);
                }
            }
        }
    }

    private static void promises10To12(Sentences doc) {
        MeerDrawers x = standing(2, 0, 1);
        // Alike are 0 and 4, the lesser first.
        int[][] orders = {{0, 4, 1, 2, 3}, {3, 2, 1, 0, 4}};
        doc.says("`int rank(int clerk, int card) throws NoSuchElementException`: RANK.");
        for (int clerk = 0; clerk < 2; clerk++) {
            for (int rank = 0; rank < 5; rank++) {
                int k = clerk;
                int card = orders[clerk][rank];
                doc.due("rank by " + k + " of " + card, rank, () -> x.rank(k, card));
            }
        }
        doc.says("`int at(int clerk, int rank) throws NoSuchElementException`: The CARD of a RANK.");
        doc.order(x, 0, orders[0]);
        doc.order(x, 1, orders[1]);
        doc.says("NoSuchElementException: also there is none.");
        noSuch(doc, "at", 5, rank -> x.at(1, rank));
        doc.says("`int drawer(int place) throws NoSuchElementException`: The CARD at a place of THE DRAWER.");
        doc.due("the first", 2, () -> x.drawer(0));
        doc.due("the second", 0, () -> x.drawer(1));
        doc.due("the third", 1, () -> x.drawer(2));
        doc.says("NoSuchElementException: there is none.");
        noSuch(doc, "drawer", 3, x::drawer);
        noSuch(doc, "an empty drawer", 0, place -> Check.told(TEXT).drawer(place));
    }

    private static void promises13And14(Sentences doc) {
        MeerDrawers x = Check.told(TEXT);
        doc.says("`int put(int card, int clerk) throws NoSuchElementException`: PUT in: the place.");
        doc.due("1", 0, () -> x.put(1, 0));
        doc.due("3 behind", 1, () -> x.put(3, 0));
        doc.due("2 between, by the other behind 3, ahead of 1", 0, () -> x.put(2, 1));
        doc.due("0 ahead", 0, () -> x.put(0, 0));
        doc.due("4 behind 0", 1, () -> x.put(4, 0));
        doc.row(x, 0, 4, 2, 1, 3);
        doc.says("NONE (STATUS 1): it is in it.");
        doc.due("0 again", -1, () -> x.put(0, 1));
        doc.due("refused", 1, () -> x.count(7));
        doc.due("acts", 5, () -> x.count(4));
        doc.says("NoSuchElementException (ahead): no such CARD, CLERK.");
        doc.noSuch("no such card", () -> x.put(5, 0));
        doc.noSuch("no such clerk, of a card that is in it", () -> x.put(0, 2));
        doc.due("not refused", 1, () -> x.count(7));
        doc.says("`int take(int card) throws NoSuchElementException`: TAKEN out: the place where it was.");
        doc.due("2", 2, () -> x.take(2));
        doc.due("3", 3, () -> x.take(3));
        doc.due("0", 0, () -> x.take(0));
        doc.row(x, 4, 1);
        doc.says("NONE (STATUS 1): it isn't in it.");
        doc.due("0 again", -1, () -> x.take(0));
        doc.due("refused", 2, () -> x.count(7));
        doc.due("acts", 8, () -> x.count(4));
    }

    private static void promises15To17(Sentences doc) {
        MeerDrawers x = standing(0, 1, 2, 3);
        doc.says("`int move(int card, int place) throws NoSuchElementException`: MOVED to a place (as it is then): the place "
                + "where it was.");
        doc.due("on", 0, () -> x.move(0, 2));
        doc.row(x, 1, 2, 0, 3);
        doc.due("back", 3, () -> x.move(3, 1));
        doc.row(x, 1, 3, 2, 0);
        doc.due("to the end", 1, () -> x.move(3, 3));
        doc.row(x, 1, 2, 0, 3);
        doc.says("NONE (STATUS 1): it isn't in it, there is no such place.");
        doc.due("it isn't in it", -1, () -> x.move(4, 0));
        for (int place : outside(4)) {
            doc.due("place " + place, -1, () -> x.move(0, place));
        }
        doc.due("refused", 5, () -> x.count(7));
        doc.due("acts", 11, () -> x.count(4));
        doc.says("`int file(int clerk) throws NoSuchElementException`: FILED: how many CARDS stand elsewhere then.");
        doc.due("all but 3", 3, () -> x.file(0));
        doc.row(x, 0, 1, 2, 3);
        doc.due("all four", 4, () -> x.file(1));
        doc.row(x, 3, 2, 1, 0);
        doc.due("none", 0, () -> x.file(1));
        doc.says("`int undo()`: The last ACT is UNDONE: how many are left.");
        doc.due("the file that moved none", 13, x::undo);
        doc.row(x, 3, 2, 1, 0);
        doc.due("the file of all four", 12, x::undo);
        doc.row(x, 0, 1, 2, 3);
        doc.due("the file of three", 11, x::undo);
        doc.row(x, 1, 2, 0, 3);
        doc.says("NONE: there is none.");
        for (int left = 10; left >= 0; left--) {
            int due = left;
            doc.due("undo", due, x::undo);
        }
        doc.due("no more", -1, x::undo);
        doc.row(x);
        doc.due("a new one", -1, () -> new MeerDrawers().undo());
    }

    private static void promises18And19(Sentences doc) {
        MeerDrawers x = Check.told(TEXT + "clerk;fold d c;fold c d;");
        doc.says("`int differ(int clerk, int other, int what) throws NoSuchElementException`: DIFFER: how many (what 0), the "
                + "first (1; 10 by the lesser and the other one; NONE: none).");
        doc.due("0 and 1: all but the like ones", 9, () -> x.differ(0, 1, 0));
        doc.due("the first", 1, () -> x.differ(0, 1, 1));
        doc.due("0 and 2", 1, () -> x.differ(0, 2, 0));
        doc.due("2 and 3", 23, () -> x.differ(2, 0, 1));
        doc.due("one and himself", 0, () -> x.differ(1, 1, 0));
        doc.due("none", -1, () -> x.differ(1, 1, 1));
        doc.says("NoSuchElementException: also another what.");
        noSuch(doc, "differ", 2, what -> x.differ(0, 1, what));
        doc.says("`int votes(int card, int other) throws NoSuchElementException`: By how many more CLERKS a CARD goes before "
                + "another one than behind it (below 0: fewer; 0 of itself).");
        doc.due("0 before 1 by two of three", 1, () -> x.votes(0, 1));
        doc.due("1 before 0 by one", -1, () -> x.votes(1, 0));
        doc.due("3 before 2 by two", 1, () -> x.votes(3, 2));
        doc.due("0 before 4 by three", 3, () -> x.votes(0, 4));
        doc.due("4 before 0 by none", -3, () -> x.votes(4, 0));
        doc.due("of itself", 0, () -> x.votes(2, 2));
        doc.due("without clerks", 0, () -> Check.told(FIVE).votes(0, 1));
    }

    private static void promises20To23(Sentences doc) {
        String ring = "card 1 a;card 1 b;card 1 c;clerk;clerk;fold a c;fold b a;fold c b;clerk;fold a b;fold b c;fold c a;";
        doc.says("`int ring()`: A RING; NONE: none.");
        doc.due("0 1 2", 12, () -> Check.told(ring).ring());
        doc.due("none", -1, () -> Check.told(TEXT).ring());
        doc.due("of nothing", -1, () -> new MeerDrawers().ring());
        doc.says("`int head()`: THE HEAD; NONE: none.");
        doc.due("none", -1, () -> Check.told(ring).head());
        doc.due("even votes", -1, () -> Check.told(TEXT).head());
        doc.due("3 by one more", 3, () -> Check.told(TEXT + "clerk;fold d a;fold a z;").head());
        doc.due("of nothing", -1, () -> new MeerDrawers().head());
        MeerDrawers x = standing(2, 0, 4, 1);
        doc.says("`int stay(int clerk) throws NoSuchElementException`: THE STAY: how many; the row is kept.");
        doc.noSuch("none is kept yet", () -> x.stays(0));
        doc.due("0 4 1", 3, () -> x.stay(0));
        x.take(0);
        x.file(1);
        doc.due("it is kept behind acts", 0, () -> x.stays(0));
        x.undo();
        x.undo();
        doc.says("`int stays(int i) throws NoSuchElementException`: The i-th CARD of THE STAY that is kept.");
        int[] row = {0, 4, 1};
        for (int i = 0; i < 3; i++) {
            int at = i;
            doc.due("stays " + at, row[at], () -> x.stays(at));
        }
        doc.due("2 0 4", 3, () -> x.stay(1));
        doc.due("another row is kept", 2, () -> x.stays(0));
        doc.says("NoSuchElementException: there is none, none is kept.");
        noSuch(doc, "stays", 3, x::stays);
        noSuch(doc, "none is kept", 0, i -> standing(0, 1).stays(i));
    }

    private static void promises24To27(Sentences doc) {
        MeerDrawers x = standing(2, 0, 1);
        doc.says("`int search(int clerk, int card, int what) throws NoSuchElementException`: A SEARCH: LOOKS (what 0), whether "
                + "FOUND (1).");
        // He looks at 0 first, then at 2 or at 1.
        int[][] looks = {{1, 2, 2, 2, 2}, {1, 2, 2, 2, 2}};
        int[][] found = {{1, 1, 0, 0, 0}, {1, 0, 1, 0, 0}};
        for (int clerk = 0; clerk < 2; clerk++) {
            for (int card = 0; card < 5; card++) {
                int k = clerk;
                int c = card;
                doc.due("looks by " + k + " for " + c, looks[k][c], () -> x.search(k, c, 0));
                doc.due("found by " + k + ": " + c, found[k][c], () -> x.search(k, c, 1));
            }
        }
        doc.says("NoSuchElementException: also another what.");
        noSuch(doc, "search", 2, what -> x.search(0, 0, what));
        doc.says("`int could()`: COULD, as bits.");
        doc.due("nobody", 0, x::could);
        doc.due("clerk 1", 2, () -> standing(3, 1, 0).could());
        doc.due("both", 3, () -> standing(0, 4).could());
        doc.says("`int explained()`: EXPLAINED, as bits; NONE: none.");
        doc.due("both", 3, x::explained);
        doc.due("clerk 1", 2, () -> standing(3, 1, 0).explained());
        doc.due("none", -1, () -> standing(4, 0).explained());
        doc.says("`int telling(int what) throws NoSuchElementException`: TELLING: the CARD (what 0; NONE: all are in it), how "
                + "many (1; 0: all are).");
        doc.due("3: to both ends; 4: to one place or another", 3, () -> x.telling(0));
        doc.due("two places", 2, () -> x.telling(1));
        doc.due("all are in it", -1, () -> standing(2, 0, 4, 1, 3).telling(0));
        doc.due("all are in it", 0, () -> standing(2, 0, 4, 1, 3).telling(1));
        doc.says("NoSuchElementException: another what.");
        noSuch(doc, "telling", 2, x::telling);
    }

    private static void promises28And29(Sentences doc) {
        MeerDrawers x = Check.told("card 9 the a;card 3 b;card 3 z y;clerk;skip the;spell z c;fold b d;tie 1;clerk;join;turn;");
        doc.says("`int matters(int clerk, int i) throws NoSuchElementException`: MATTERS: the i-th RULE (0 on), TURN (-1), JOIN "
                + "(-2), TIE (-3).");
        // Clerk 0: a, c y, d (0 2 1); clerk 1: athe, b, yz (0 1 2).
        int[] rules = {2, 1, 1};
        for (int i = 0; i < 3; i++) {
            int rule = i;
            doc.due("rule " + rule, rules[rule], () -> x.matters(0, rule));
        }
        doc.due("turn, of who doesn't: a, d, y c", 1, () -> x.matters(0, -1));
        doc.due("join, of who doesn't", 0, () -> x.matters(0, -2));
        doc.due("tie, where none is alike", 0, () -> x.matters(0, -3));
        doc.due("turn, of who does: b, thea, zy", 1, () -> x.matters(1, -1));
        doc.due("join, of who does", 0, () -> x.matters(1, -2));
        doc.due("no tie", 0, () -> x.matters(1, -3));
        doc.due("a tie that matters", 1, () -> Check.told("card 9 a;card 3 a;clerk;tie 1;").matters(0, -3));
        doc.says("NoSuchElementException: also there is no such RULE.");
        for (int rule : new int[] {-4, 3, Integer.MIN_VALUE, Integer.MAX_VALUE}) {
            doc.noSuch("rule " + rule, () -> x.matters(0, rule));
        }
        doc.noSuch("of who has none", () -> x.matters(1, 0));
        doc.says("`int sees()`: SEE-CARDS: how many.");
        doc.due("2 under c, 1 under c", 2, () -> standing(2, 0, 1).sees());
        doc.due("none", 0, () -> standing(0, 4).sees());
        doc.due("of nothing", 0, () -> new MeerDrawers().sees());
    }

    private static void promises30And31(Sentences doc) {
        MeerDrawers x = standing(2, 0, 1);
        doc.says("`int reader(int clerk, int card, int letters) throws NoSuchElementException, IllegalArgumentException`: A "
                + "READER, CARDS as bits.");
        doc.due("a", 17, () -> x.reader(0, 4, 1));
        doc.due("all of a", 17, () -> x.reader(0, 0, 9));
        doc.due("no letter", 31, () -> x.reader(1, 3, 0));
        doc.says("IllegalArgumentException (behind NoSuchElementException): not 0 to 9.");
        illegal(doc, "letters", 0, 9, letters -> x.reader(0, 0, letters));
        doc.noSuch("no such clerk, not 0 to 9", () -> x.reader(2, 0, 10));
        doc.noSuch("no such card, not 0 to 9", () -> x.reader(0, 5, -1));
        doc.says("`int game(int clerk, int other, int much, int what) throws NoSuchElementException, "
                + "IllegalArgumentException`: A GAME: how many couples rest (what 0), the first (1; NONE: none).");
        doc.due("3 couples apart, much 3", 3, () -> x.game(0, 1, 3, 0));
        doc.due("the first", 0, () -> x.game(0, 1, 3, 1));
        doc.due("much 2", 1, () -> x.game(1, 0, 2, 0));
        doc.due("the first", 1, () -> x.game(1, 0, 2, 1));
        doc.says("NoSuchElementException: also another what.");
        noSuch(doc, "game", 2, what -> x.game(0, 1, 3, what));
        doc.says("IllegalArgumentException (behind that): both are one, so much.");
        doc.illegal("both are one", () -> x.game(1, 1, 3, 0));
        illegal(doc, "much", 0, 99, much -> x.game(0, 1, much, 0));
        doc.noSuch("another what, both are one", () -> x.game(1, 1, 3, 2));
        doc.noSuch("another what, so much", () -> x.game(0, 1, 100, -1));
        doc.noSuch("no such clerk, so much", () -> x.game(2, 2, 100, 0));
    }

    private static void promise32(Sentences doc) {
        MeerDrawers x = Drawers.standing(FIVE + "clerk;fold a d;fold b c;fold c b;fold d a;", 0, 1, 2);
        doc.says("`int years(int seed, int n, int what) throws NoSuchElementException, IllegalArgumentException`: YEARS: not "
                + "FOUND (what 0), CARDS (1), WRONG (2; 0 without CLERKS).");
        doc.due("none are missed in no years", 0, () -> x.years(1, 0, 0));
        doc.due("three cards", 3, () -> x.years(1, 0, 1));
        doc.due("all wrong", 3, () -> x.years(1, 0, 2));
        // By seed 1 cards 3, 3, 1 are drawn.
        doc.due("3 is put in", 4, () -> x.years(1, 1, 1));
        doc.due("ahead of all, where nothing more is wrong", 3, () -> x.years(1, 1, 2));
        doc.due("it is found again", 0, () -> x.years(1, 2, 0));
        doc.due("it is taken out", 3, () -> x.years(1, 2, 1));
        doc.due("1, in the middle, is taken out", 2, () -> x.years(1, 3, 1));
        doc.due("without clerks", 0, () -> Check.told(FIVE).years(1, 60, 2));
        doc.says("NoSuchElementException: another what.");
        noSuch(doc, "years", 3, what -> x.years(1, 1, what));
        doc.says("IllegalArgumentException (behind that): n.");
        illegal(doc, "years", 0, 60, n -> x.years(1, n, 0));
        noSuch(doc, "what ahead of n", 3, what -> x.years(1, 61, what));
    }

    private static void promises33To35(Sentences doc) {
        MeerDrawers x = Check.told(TEXT + "clerk;fold a d;fold b c;fold c b;fold d a;");
        doc.says("`int compromise(int i) throws NoSuchElementException`: THE COMPROMISE: how many are hurt (i NONE), the i-th "
                + "CARD of the row.");
        int[] row = {3, 2, 1, 0, 4};
        doc.due("clerk 0 of nine couples", 9, () -> x.compromise(-1));
        for (int i = 0; i < 5; i++) {
            int at = i;
            doc.due("at " + at, row[at], () -> x.compromise(at));
        }
        doc.says("NoSuchElementException: there is none.");
        noSuchButNone(doc, "compromise", 5, x::compromise);
        noSuchButNone(doc, "compromise of nothing", 0, i -> new MeerDrawers().compromise(i));
        doc.says("`int agreed()`: AGREED: how many.");
        doc.due("0 4", 2, x::agreed);
        doc.due("no clerks", 5, () -> Check.told(FIVE).agreed());
        doc.says("`int closest(int what) throws NoSuchElementException`: THE CLOSEST: couples of CARDS (what 0), the CLERKS (1); "
                + "NONE: none.");
        doc.due("none apart", 0, () -> x.closest(0));
        doc.due("1 and 2", 12, () -> x.closest(1));
        doc.due("one clerk", -1, () -> Check.told(FIVE + "clerk;").closest(0));
        doc.due("one clerk", -1, () -> Check.told(FIVE + "clerk;").closest(1));
        doc.says("NoSuchElementException: another what.");
        noSuch(doc, "closest", 2, x::closest);
    }

    private static void promises36And37(Sentences doc) {
        MeerDrawers x = standing(2, 0, 1);
        doc.says("`int off(int clerk, int card) throws NoSuchElementException`: OFF; -99: it isn't in THE DRAWER.");
        int[][] off = {{1, 1, -2, -99, -99}, {-1, 1, 0, -99, -99}};
        for (int clerk = 0; clerk < 2; clerk++) {
            for (int card = 0; card < 5; card++) {
                int k = clerk;
                int c = card;
                doc.due("off by " + k + ": " + c, off[k][c], () -> x.off(k, c));
            }
        }
        doc.says("`int worst(int clerk, int what) throws NoSuchElementException`: THE WORST (what 0), THE HARDEST (1); NONE: "
                + "none.");
        doc.due("2 is wrong twice", 2, () -> x.worst(0, 0));
        doc.due("0 and 1 once", 0, () -> x.worst(1, 0));
        doc.due("1 and 2 by two looks", 1, () -> x.worst(0, 1));
        doc.due("none is wrong", -1, () -> standing(0, 4).worst(1, 0));
        doc.due("none is in it", -1, () -> Check.told(TEXT).worst(0, 1));
        doc.says("NoSuchElementException: also another what.");
        noSuch(doc, "worst", 2, what -> x.worst(0, what));
    }

    private static void promise38(Sentences doc) {
        MeerDrawers x = standing(2, 0, 1, 4);
        doc.says("`int trays(int clerk, int many, int tray) throws NoSuchElementException, IllegalArgumentException`: TRAYS: how "
                + "many (tray NONE), the GUIDE of one.");
        doc.due("trays of 3", 2, () -> x.trays(0, 3, -1));
        doc.due("the first guide", 0, () -> x.trays(0, 3, 0));
        doc.due("the guide of c", 1, () -> x.trays(0, 3, 1));
        doc.due("the guide of a behind a", 1, () -> x.trays(0, 1, 1));
        doc.due("an empty drawer", 0, () -> Check.told(TEXT).trays(0, 3, -1));
        doc.says("NoSuchElementException: also there is no such TRAY.");
        noSuchButNone(doc, "tray", 2, tray -> x.trays(0, 3, tray));
        noSuchButNone(doc, "tray of an empty drawer", 0, tray -> Check.told(TEXT).trays(0, 10, tray));
        doc.says("IllegalArgumentException (ahead of that, behind no such CLERK): not 1 to 10.");
        illegal(doc, "trays of", 1, 10, many -> x.trays(0, many, -1));
        illegal(doc, "no such tray of", 1, 10, many -> x.trays(0, many, 99));
        doc.noSuch("no such clerk, not 1 to 10", () -> x.trays(2, 0, -1));
    }

    private static void promises39And40(Sentences doc) {
        MeerDrawers x = standing(2, 0, 1);
        doc.says("`void image()`: THE DRAWER and ACTS are kept as an image, in place of another one.");
        x.image();
        doc.row(x, 2, 0, 1);
        x.take(0);
        x.image();
        x.file(0);
        x.put(4, 0);
        doc.yes("restored", x.restore());
        doc.row(x, 2, 1);
        doc.due("acts", 7, () -> x.count(4));
        doc.says("`boolean restore()`: They are as the image again: true.");
        x.undo();
        doc.row(x, 2, 0, 1);
        doc.yes("once more", x.restore());
        doc.row(x, 2, 1);
        doc.due("acts", 7, () -> x.count(4));
        doc.due("the take is undone", 6, x::undo);
        doc.row(x, 2, 0, 1);
        doc.says("False: there is none.");
        MeerDrawers y = standing(2, 0, 1);
        doc.yes("none yet", !y.restore());
        doc.row(y, 2, 0, 1);
        doc.yes("none of a new one", !new MeerDrawers().restore());
    }
}
