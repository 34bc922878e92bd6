/** The third, fourth and fifth part of the document's terms: what is asked of cards, clerks and the drawer. */
final class DocumentOfQuestions {
    private static final String FIVE = "card 0 a;card 0 b;card 0 c;card 0 d;card 0 e;";
    /** He files 0 1 2 3 4. */
    private static final String FORTH = "clerk;";
    /** He files 1 2 0 3 4. */
    private static final String ON = "clerk;fold a c;fold b a;fold c b;";
    /** He files 2 0 1 3 4. */
    private static final String FURTHER = "clerk;fold a b;fold b c;fold c a;";
    /** He files 4 3 2 1 0. */
    private static final String BACK = "clerk;fold a e;fold b d;fold d b;fold e a;";
    private static final String FOUR_CLERKS = FORTH + ON + FURTHER + BACK;

    private DocumentOfQuestions() {
    }

    static void read(Sentences doc) {
        ranksAndVotes(doc);
        rings(doc);
        wrong(doc);
        searches(doc);
        clerksWho(doc);
        telling(doc);
        matters(doc);
        seesAndReaders(doc);
        games(doc);
        years(doc);
        compromises(doc);
        agreedAndClosest(doc);
        offAndWorst(doc);
        trays(doc);
    }

    private static MeerDrawers mixed() {
        return Drawers.standing(FIVE + FOUR_CLERKS, 2, 0, 4, 1, 3);
    }

    private static void dueOfCards(Sentences doc, String call, int[] want, java.util.function.IntUnaryOperator asked) {
        for (int card = 0; card < want.length; card++) {
            int c = card;
            doc.due(call + " of card " + c, want[c], () -> asked.applyAsInt(c));
        }
    }

    private static void ranksAndVotes(Sentences doc) {
        MeerDrawers x = Check.told(FIVE + FOUR_CLERKS);
        doc.says("RANK of a CARD by a CLERK: how many of all CARDS GO BEFORE it.");
        int[][] ranks = {{0, 1, 2, 3, 4}, {2, 0, 1, 3, 4}, {1, 2, 0, 3, 4}, {4, 3, 2, 1, 0}};
        for (int clerk = 0; clerk < 4; clerk++) {
            int k = clerk;
            dueOfCards(doc, "rank by " + k, ranks[k], card -> x.rank(k, card));
        }
        doc.says("DIFFER: couples of CARDS (the lesser first) of which two CLERKS would have another one first: how many; "
                + "the first.");
        int[][] couples = {{0, 2, 2, 10}, {2, 0, 2, 8}, {2, 2, 0, 8}, {10, 8, 8, 0}};
        int[][] first = {{-1, 1, 2, 1}, {1, -1, 1, 3}, {2, 1, -1, 1}, {1, 3, 1, -1}};
        for (int clerk = 0; clerk < 4; clerk++) {
            for (int other = 0; other < 4; other++) {
                int k = clerk;
                int o = other;
                doc.due("how many of " + k + " and " + o, couples[k][o], () -> x.differ(k, o, 0));
                doc.due("the first of " + k + " and " + o, first[k][o], () -> x.differ(k, o, 1));
            }
        }
        doc.says("BY VOTES a CARD goes before another one, if more CLERKS have it so than not.");
        doc.due("two for, two against", 0, () -> x.votes(0, 1));
        doc.due("three for, one against", 2, () -> x.votes(2, 0));
        doc.due("one for, three against", -2, () -> x.votes(0, 2));
        doc.due("three for the first three ahead of the last two", 2, () -> x.votes(1, 4));
    }

    private static void rings(Sentences doc) {
        MeerDrawers x = Check.told(FIVE + FORTH + ON + FURTHER);
        doc.says("A RING: three CARDS a, b, c of which BY VOTES a goes before b, b before c, c before a: the first (100 by "
                + "a, 10 by b, and c; a the least of the three); none.");
        doc.due("0 before 1 before 2 before 0", 12, x::ring);
        doc.due("even votes", -1, () -> Check.told(FIVE + FOUR_CLERKS).ring());
        doc.due("1 before 4 before 3 before 1", 143, () -> Check.told(FIVE + "clerk;fold c b;fold b c;fold e d;fold d e;"
                + "clerk;fold c b;fold e c;fold b e;clerk;fold c b;fold d c;fold b d;").ring());
        doc.due("one clerk", -1, () -> Check.told(FIVE + BACK).ring());
        doc.says("THE HEAD: the CARD that BY VOTES goes before each other one; none.");
        doc.due("within a ring", -1, x::head);
        doc.due("of one clerk", 4, () -> Check.told(FIVE + BACK).head());
        doc.due("two to one", 0, () -> Check.told(FIVE + BACK + FORTH + FORTH).head());
        doc.due("one to one", -1, () -> Check.told(FIVE + BACK + FORTH).head());
    }

    private static void wrong(Sentences doc) {
        MeerDrawers x = mixed();
        doc.says("WRONG by a CLERK: couples in THE DRAWER of which that which stands behind GOES BEFORE the other one.");
        int[] wrong = {4, 4, 2, 6};
        int[] moving = {2, 2, 1, 3};
        int[][] stay = {{0, 1, 3}, {2, 0, 4}, {2, 0, 1, 3}, {2, 0}};
        for (int clerk = 0; clerk < 4; clerk++) {
            int k = clerk;
            doc.due("wrong by " + k, wrong[k], () -> x.clerk(k, 4));
        }
        doc.says("MOVING by him: the fewest CARDS of it that must be moved so that nothing is WRONG;");
        for (int clerk = 0; clerk < 4; clerk++) {
            int k = clerk;
            doc.due("moving by " + k, moving[k], () -> x.clerk(k, 5));
        }
        x.move(4, 4);
        x.move(2, 2);
        doc.due("nothing is wrong behind two moves", 0, () -> x.clerk(0, 4));
        x.undo();
        x.undo();
        doc.says("THE STAY: of CARDS that may stay in their order, so many as can, the first row by their places in THE "
                + "DRAWER.");
        for (int clerk = 0; clerk < 4; clerk++) {
            int k = clerk;
            doc.due("how many stay by " + k, stay[k].length, () -> x.stay(k));
            for (int i = 0; i < stay[k].length; i++) {
                int at = i;
                doc.due("stays by " + k + " at " + at, stay[k][at], () -> x.stays(at));
            }
        }
    }

    private static void searches(Sentences doc) {
        MeerDrawers x = mixed();
        doc.says("A SEARCH by halves for a CARD by a CLERK in THE DRAWER: from place lo (0) to hi (how many less 1) he "
                + "LOOKS at (lo + hi) / 2, cut down: if it is the CARD, it is FOUND; if the CARD GOES BEFORE what is there, "
                + "hi is that place less 1, else lo is that place and 1; till lo is above hi: how many LOOKS; FOUND or not.");
        int[][] looks = {{2, 2, 2, 3, 1}, {3, 2, 2, 3, 1}, {3, 3, 2, 3, 1}, {3, 2, 2, 2, 1}};
        int[][] found = {{0, 0, 1, 0, 1}, {1, 0, 1, 0, 1}, {1, 0, 1, 0, 1}, {0, 1, 0, 0, 1}};
        for (int clerk = 0; clerk < 4; clerk++) {
            int k = clerk;
            dueOfCards(doc, "looks by " + k, looks[k], card -> x.search(k, card, 0));
            dueOfCards(doc, "found by " + k, found[k], card -> x.search(k, card, 1));
        }
        doc.says("MOST LOOKS: over all CARDS (in it or not).");
        for (int clerk = 0; clerk < 4; clerk++) {
            int k = clerk;
            doc.due("most looks by " + k, 3, () -> x.clerk(k, 6));
        }
        MeerDrawers two = Drawers.standing(FIVE + FORTH, 3, 0);
        doc.due("4, which is out, needs a look more than both that are in", 2, () -> two.clerk(0, 6));
        doc.due("0 is given up with the first look", 1, () -> two.search(0, 0, 0));
        doc.due("3 is there", 1, () -> two.search(0, 3, 0));
    }

    private static void clerksWho(Sentences doc) {
        doc.says("COULD: CLERKS by whom nothing is WRONG.");
        doc.due("nobody", 0, () -> mixed().could());
        doc.due("one", 4, () -> Drawers.standing(FIVE + FOUR_CLERKS, 2, 0, 1).could());
        doc.due("three", 7, () -> Drawers.standing(FIVE + FOUR_CLERKS, 2, 3, 4).could());
        doc.due("all", 15, () -> Drawers.standing(FIVE + FOUR_CLERKS, 2).could());
        doc.says("EXPLAINED: the fewest CLERKS such that each two CARDS side by side in THE DRAWER stand as one of them "
                + "would have it: of as few the least as bits; none.");
        doc.due("2 0, 0 4, 1 3 by clerks of whom the least is 0, 4 1 by clerk 3", 9, () -> mixed().explained());
        doc.due("one who could", 4, () -> Drawers.standing(FIVE + FOUR_CLERKS, 2, 0, 1).explained());
        doc.due("the least of three who could", 1, () -> Drawers.standing(FIVE + FOUR_CLERKS, 2, 3, 4).explained());
        doc.due("nobody is needed", 0, () -> Drawers.standing(FIVE + FOUR_CLERKS, 2).explained());
        doc.due("none: 4 1 is nobody's", -1, () -> Drawers.standing(FIVE + FORTH + ON + FURTHER, 0, 4, 1).explained());
    }

    private static void telling(Sentences doc) {
        doc.says("TELLING: the CARD not in THE DRAWER that CLERKS would put to most unlike places (of like ones the "
                + "least): which; how many unlike places; none.");
        MeerDrawers x = Drawers.standing(FIVE + FOUR_CLERKS, 3);
        doc.due("0, 1, 2 ahead of it or behind, 4 too: the least", 0, () -> x.telling(0));
        doc.due("two places", 2, () -> x.telling(1));
        MeerDrawers y = Drawers.standing(FIVE + FOUR_CLERKS, 2, 0);
        doc.due("1 to 0, 0, 2, 1", 1, () -> y.telling(0));
        doc.due("three places", 3, () -> y.telling(1));
        MeerDrawers z = Drawers.standing(FIVE + FORTH + ON, 0);
        doc.due("1 and 2 ahead or behind; 3 and 4 behind: the least", 1, () -> z.telling(0));
        z.put(1, 0);
        doc.due("2 by both, 3 and 4 at one place", 2, () -> z.telling(0));
        doc.due("two places", 2, () -> z.telling(1));
        MeerDrawers full = mixed();
        doc.due("none is out", -1, () -> full.telling(0));
        doc.due("none is out", 0, () -> full.telling(1));
    }

    private static void matters(Sentences doc) {
        MeerDrawers x = Check.told(FIVE + FOUR_CLERKS);
        doc.says("MATTERS: a RULE of a CLERK, were it not: of how many couples of CARDS another one would be first.");
        doc.due("without fold a c: 0 1 2, not 1 2 0", 2, () -> x.matters(1, 0));
        doc.due("without fold b a: 1 2 0 still", 0, () -> x.matters(1, 1));
        doc.due("without fold c b: 1 0 2", 1, () -> x.matters(1, 2));
        MeerDrawers y = Check.told("card 5 a b;card 3 b a;card 1 ab;clerk;clerk;turn;join;tie year;clerk;tie 0-year;join;");
        doc.says("TURN, JOIN, TIE of a CLERK likewise, were he otherwise (no TIE).");
        // Clerk 0: a b, ab, b a (0 2 1). Clerk 1: ab of 1, ab of 3, ba (2 1 0). Clerk 2: ab of 5, ab of 1, ba (0 2 1).
        int[][] due = {{3, 1, 0}, {1, 1, 0}, {3, 0, 1}};
        for (int clerk = 0; clerk < 3; clerk++) {
            for (int i = -1; i >= -3; i--) {
                int k = clerk;
                int what = i;
                doc.due("matters " + k + " " + what, due[k][-1 - what], () -> y.matters(k, what));
            }
        }
    }

    private static void seesAndReaders(Sentences doc) {
        doc.says("SEE-CARDS: each CLERK SEARCHES for each CARD in THE DRAWER; if he doesn't find it, there must be a "
                + "see-card under the KEY that he has for it; one does for all who have this KEY for this CARD: how many "
                + "there must be.");
        // 0 under a, e; 1 under b, a, c; 2 under c; 3 under d, b.
        doc.due("eight", 8, () -> mixed().sees());
        doc.due("0, 1 and 3, each under one key of all three", 3, () -> Drawers.standing(FIVE + FORTH + FORTH + FORTH, 2, 0, 4, 1, 3).sees());
        doc.due("none, if all is found", 0, () -> Drawers.standing(FIVE + FORTH, 0, 2, 4).sees());
        // Of a a, turned about by their numbers, each is missed under the same key: one see-card each.
        doc.due("one for each card", 2, () -> Drawers.standing("card 0 a;card 0 a;card 0 a;clerk;", 2, 1, 0).sees());
        doc.says("A READER who knows just the first letters: CARDS whose KEYS by a CLERK begin with the first so many (0 to "
                + "9) of a CARD's (all of it, if it has fewer), as bits.");
        MeerDrawers x = Check.told("card 0 meer;card 0 meer van der;card 0 mee;card 0 meerman;clerk;clerk;join;");
        doc.due("meer", 11, () -> x.reader(0, 0, 4));
        doc.due("meer and a blank", 2, () -> x.reader(0, 1, 5));
        doc.due("meerv", 2, () -> x.reader(1, 1, 5));
        doc.due("all of mee", 15, () -> x.reader(0, 2, 9));
        doc.due("nothing", 15, () -> x.reader(0, 3, 0));
        doc.due("meerman", 8, () -> x.reader(0, 3, 9));
    }

    private static void games(Sentences doc) {
        MeerDrawers x = Drawers.standing(FIVE + FORTH + BACK + ON, 0, 1, 2);
        doc.says("A GAME of two CLERKS: each proposes that THE DRAWER is FILED by the first one's RULES or by the other "
                + "one's (0, 1): if both propose the same, each loses as many as couples of CARDS in it are then WRONG by "
                + "him; else each loses so much (0 to 99).");
        // By the one's rules the other one loses 3, and the other way.
        doc.due("much 4", 2, () -> x.game(0, 1, 4, 0));
        doc.due("much 2", 1, () -> x.game(0, 1, 2, 0));
        // By 0 and 2 it is two couples, not three.
        doc.due("much 2 with another one", 3, () -> x.game(0, 2, 2, 0));
        doc.due("much 3 with another one", 2, () -> x.game(0, 2, 3, 0));
        doc.says("A couple RESTS, if neither loses less by its other choice: how many; the first (10 by the first one's "
                + "and the other one's).");
        int[][] want = {{0, 2, 1}, {1, 1, 1}, {2, 1, 1}, {3, 3, 0}, {4, 2, 0}, {99, 2, 0}};
        for (int[] game : want) {
            doc.due("how many at " + game[0], game[1], () -> x.game(0, 1, game[0], 0));
            doc.due("the first at " + game[0], game[2], () -> x.game(0, 1, game[0], 1));
        }
        doc.row(x, 0, 1, 2);
    }

    private static void years(Sentences doc) {
        MeerDrawers x = Check.told(FIVE + FOUR_CLERKS);
        doc.says("YEARS by a seed: n times (0 to 60), THE DRAWER being as it is at first: a DRAW of CARDS and a DRAW of "
                + "CLERKS: if the CARD is in THE DRAWER, he SEARCHES for it, and takes it out, if he FINDS it; if it is "
                + "not, he PUTS it in: how often one was not FOUND; how many CARDS are in it at the end; how many couples of "
                + "these are WRONG by CLERK 0.");
        // Drawn by seed 1: 3 by 2, 3 by 3, 1 by 3, 0 by 3, 2 by 2, 4 by 3, 4 by 0, 0 by 3, 4 by 3, 2 by 2.
        int[][] want = {{0, 0, 0}, {0, 1, 0}, {0, 0, 0}, {0, 1, 0}, {0, 2, 1}, {0, 3, 3}, {0, 4, 6}, {1, 4, 6}, {1, 3, 3},
            {1, 2, 1}, {1, 1, 0}};
        for (int n = 0; n < want.length; n++) {
            for (int what = 0; what < 3; what++) {
                int years = n;
                int w = what;
                doc.due(years + " years, " + w, want[years][w], () -> x.years(1, years, w));
            }
        }
        doc.due("the drawer is as it was", 0, () -> x.count(2));
        doc.says("A seed becomes itself times 1103515245 and 12345 (an int that wraps); a DRAW of n is its bits 16 to 30 "
                + "MOD n then.");
        MeerDrawers y = Drawers.standing(FIVE + FORTH + BACK, 0, 1, 2, 3, 4);
        int first = -7 * 1103515245 + 12345;
        int second = first * 1103515245 + 12345;
        int card = (first & 0x7fffffff) / 65536 % 5;
        int clerk = (second & 0x7fffffff) / 65536 % 2;
        int found = y.search(clerk, card, 1);
        doc.due("missed or not", 1 - found, () -> y.years(-7, 1, 0));
        doc.due("taken out or not", 5 - found, () -> y.years(-7, 1, 1));
        doc.says("(Without CARDS, or without CLERKS, nothing is drawn.)");
        for (int what = 0; what < 3; what++) {
            int w = what;
            doc.due("without cards", 0, () -> Check.told(FOUR_CLERKS).years(1, 60, w));
            doc.due("without clerks", 0, () -> Check.told(FIVE).years(1, 60, w));
            doc.due("without both", 0, () -> new MeerDrawers().years(1, 60, w));
        }
    }

    private static void compromiseIs(Sentences doc, String clerks, int hurt, int... row) {
        MeerDrawers x = Check.told(FIVE + clerks);
        doc.due("hurt", hurt, () -> x.compromise(-1));
        for (int i = 0; i < row.length; i++) {
            int at = i;
            doc.due("at " + at, row[at], () -> x.compromise(at));
        }
    }

    private static void compromises(Sentences doc) {
        doc.says("THE COMPROMISE: the row of all CARDS by which the fewest are hurt: of each couple each CLERK is, who "
                + "would have the other one first: how many, together; of like ones the first row by CARDS' numbers.");
        compromiseIs(doc, FORTH + ON + FURTHER, 4, 0, 1, 2, 3, 4);
        compromiseIs(doc, FORTH + ON + ON, 2, 1, 2, 0, 3, 4);
        compromiseIs(doc, BACK, 0, 4, 3, 2, 1, 0);
        compromiseIs(doc, BACK + FORTH, 10, 0, 1, 2, 3, 4);
        compromiseIs(doc, ON + FURTHER, 2, 1, 2, 0, 3, 4);
    }

    private static void agreedAndClosest(Sentences doc) {
        doc.says("AGREED: the longest row of CARDS, each of which GOES BEFORE those behind it by all CLERKS (all CARDS "
                + "without CLERKS).");
        doc.due("one of 0, 1, 2, then 3 4", 3, () -> Check.told(FIVE + FORTH + ON + FURTHER).agreed());
        doc.due("1 2 3 4", 4, () -> Check.told(FIVE + FORTH + ON).agreed());
        doc.due("any one", 1, () -> Check.told(FIVE + FORTH + BACK).agreed());
        doc.due("1 0 or 2 0", 2, () -> Check.told(FIVE + ON + BACK).agreed());
        doc.due("all", 5, () -> Check.told(FIVE).agreed());
        doc.says("THE CLOSEST two CLERKS: the fewest couples of CARDS in which they DIFFER; the first couple of CLERKS (10 "
                + "by the lesser and the other one); none with fewer than two.");
        String[] clerks = {FOUR_CLERKS, BACK + FORTH + ON, BACK + FORTH + ON + BACK, BACK + FORTH, BACK, ""};
        int[] few = {2, 2, 0, 10, -1, -1};
        int[] who = {1, 12, 3, 1, -1, -1};
        for (int i = 0; i < clerks.length; i++) {
            MeerDrawers x = Check.told(FIVE + clerks[i]);
            int at = i;
            doc.due("couples of cards of " + at, few[at], () -> x.closest(0));
            doc.due("the clerks of " + at, who[at], () -> x.closest(1));
        }
    }

    private static void offAndWorst(Sentences doc) {
        MeerDrawers x = mixed();
        doc.says("OFF by a CLERK is a CARD in THE DRAWER by so many places: its place less the one at which it would stand, "
                + "if all of it were FILED by him.");
        dueOfCards(doc, "off by 0", new int[] {1, 2, -2, 1, -2}, card -> x.off(0, card));
        dueOfCards(doc, "off by 3", new int[] {-3, 0, -2, 3, 2}, card -> x.off(3, card));
        x.take(4);
        dueOfCards(doc, "off by 0 without 4", new int[] {1, 1, -2, 0}, card -> x.off(0, card));
        x.undo();
        doc.says("THE WORST by a CLERK: the CARD of THE DRAWER that is in most couples that are WRONG by him (of like ones "
                + "the least); none, if none is.");
        doc.due("1, 2 and 4 are in two", 1, () -> x.worst(0, 0));
        doc.due("0 and 3 are in three", 0, () -> x.worst(3, 0));
        doc.due("4 is in two", 4, () -> x.worst(2, 0));
        doc.due("none", -1, () -> Drawers.standing(FIVE + FORTH, 1, 3, 4).worst(0, 0));
        doc.says("THE HARDEST by him: the CARD of THE DRAWER that he SEARCHES by most LOOKS, FOUND or not (of like ones the "
                + "least); none, if it is empty.");
        doc.due("3 by three looks, though not found", 3, () -> x.worst(0, 1));
        doc.due("0 by three looks", 0, () -> x.worst(3, 1));
        doc.due("0 and 3 by three", 0, () -> x.worst(1, 1));
        doc.due("empty", -1, () -> Check.told(FIVE + FORTH).worst(0, 1));
    }

    private static void trays(Sentences doc) {
        MeerDrawers x = Drawers.standing("card 0 meer;card 0 meerman;card 0 meer van;card 0 mees;card 0 mees;clerk;clerk;turn;",
                4, 3, 2, 1, 0);
        doc.says("TRAYS: all of THE DRAWER as FILED by a CLERK is parted into TRAYS of so many CARDS (1 to 10) each, the "
                + "last one perhaps of fewer: how many; the GUIDE of a TRAY (0 on): the fewest that must be told of the KEY "
                + "of its first CARD, from the beginning, so that this alone goes behind the KEY of the last CARD of the "
                + "TRAY ahead of it (0 of the first TRAY; all of the KEY, if none is enough).");
        int[] trays = {5, 3, 2, 2, 1, 1, 1, 1, 1, 1};
        for (int many = 1; many <= 10; many++) {
            int of = many;
            doc.due("trays of " + of, trays[of - 1], () -> x.trays(0, of, -1));
        }
        // meer, meer van, meerman, mees, mees; turned: meer, meerman, mees, mees, van meer.
        int[][][] guides = {{{0, 5, 5, 4, 4}, {0, 5, 4}, {0, 4}, {0, 4}, {0}}, {{0, 5, 4, 4, 1}, {0, 4, 1}, {0, 4}, {0, 1}, {0}}};
        for (int clerk = 0; clerk < 2; clerk++) {
            for (int many = 1; many <= 5; many++) {
                for (int tray = 0; tray < guides[clerk][many - 1].length; tray++) {
                    int k = clerk;
                    int of = many;
                    int t = tray;
                    doc.due("guide by " + k + " of " + of + " at " + t, guides[k][of - 1][t], () -> x.trays(k, of, t));
                }
            }
        }
        doc.says("STATUS: how many calls were refused: 0 of TEXTS with a FAULT, 1 of ACTS.");
        Check.tell(x, "clerk;oops");
        Check.tell(x, "oops");
        x.put(0, 0);
        x.move(0, 5);
        x.move(0, -1);
        doc.due("texts", 2, () -> x.count(6));
        doc.due("acts", 3, () -> x.count(7));
    }
}
