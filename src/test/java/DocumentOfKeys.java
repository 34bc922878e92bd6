/** The second part of the document's terms: keys, which card goes before which, the drawer and its acts. */
final class DocumentOfKeys {
    private DocumentOfKeys() {
    }

    static void read(Sentences doc) {
        keys(doc);
        keysInOneRow(doc);
        before(doc);
        drawer(doc);
        acts(doc);
    }

    private static void keys(Sentences doc) {
        doc.says("A KEY of a CARD by a CLERK: each WORD of the HEADING that he SPELLS is as he does (once: what comes of it "
                + "is not spelled again);");
        MeerDrawers spelled = Check.told("card 1 st mary st;card 1 saint john;clerk;spell st saint;spell saint st;"
                + "spell mary maria;clerk;spell mary m;");
        doc.key(spelled, 0, 0, "saint maria saint");
        doc.key(spelled, 0, 1, "st john");
        doc.key(spelled, 1, 0, "st m st");
        doc.key(spelled, 1, 1, "saint john");
        doc.says("then each letter that he FOLDS is as he does (once);");
        MeerDrawers folded = Check.told("card 1 abcab;card 1 st;clerk;fold a b;fold b c;fold c a;"
                + "clerk;spell st cab;fold c k;clerk;fold s c;fold t a;spell ca x;");
        doc.key(folded, 0, 0, "bcabc");
        doc.key(folded, 1, 1, "kab");
        doc.key(folded, 1, 0, "abkab");
        // Folding comes behind spelling: what it makes is not spelled.
        doc.key(folded, 2, 1, "ca");
        doc.says("then, if the first WORD is one that he SKIPS (SKIP is of a WORD as it is then), it is passed over, and "
                + "so on, but the last one never;");
        MeerDrawers skipped = Check.told("card 1 the a the sea;card 1 the a;card 1 the;card 1 sea the a;card 1 de zee;"
                + "clerk;skip the;skip a;clerk;skip a;clerk;skip sea;spell the sea;clerk;skip the;fold d t;spell de dhe;");
        doc.key(skipped, 0, 0, "sea");
        doc.key(skipped, 0, 1, "a");
        doc.key(skipped, 0, 2, "the");
        doc.key(skipped, 0, 3, "sea the a");
        doc.key(skipped, 1, 0, "the a the sea");
        doc.key(skipped, 2, 0, "a sea sea");
        doc.key(skipped, 2, 3, "a");
        doc.key(skipped, 3, 4, "zee");
    }

    private static void keysInOneRow(Sentences doc) {
        doc.says("then, if he TURNS, the last WORD goes ahead of all others;");
        MeerDrawers turned = Check.told("card 1 van der meer;card 1 sea;card 1 the sea;clerk;turn;clerk;turn;skip van;skip the;"
                + "clerk;turn;skip meer;");
        doc.key(turned, 0, 0, "meer van der");
        doc.key(turned, 0, 1, "sea");
        doc.key(turned, 1, 0, "meer der");
        doc.key(turned, 1, 2, "sea");
        doc.key(turned, 2, 0, "meer van der");
        doc.says("then WORDS are one behind the other, a blank between two, but none, if he JOINS.");
        MeerDrawers joined = Check.told("card 1 van der meer;clerk;clerk;join;clerk;join;turn;");
        doc.key(joined, 0, 0, "van der meer");
        doc.key(joined, 1, 0, "vandermeer");
        doc.key(joined, 2, 0, "meervander");
        doc.says("A blank is 0, letters are 1 (a) to 26 (z).");
        MeerDrawers x = Check.told("card 1 az m;clerk;");
        int[] signs = {1, 26, 0, 13};
        for (int i = 0; i < signs.length; i++) {
            int at = i;
            doc.due("the sign at " + at, signs[at], () -> x.key(0, 0, at));
        }
    }

    private static void before(Sentences doc) {
        doc.says("A CARD GOES BEFORE another one by a CLERK, if its KEY does: at the first place where both differ the "
                + "less one; nothing goes before something.");
        MeerDrawers x = Check.told("card 1 newton;card 2 new york;card 3 new;card 4 newark;clerk;clerk;join;");
        doc.order(x, 0, 2, 1, 3, 0);
        doc.order(x, 1, 2, 3, 0, 1);
        doc.yes("new before new york", x.before(0, 2, 1));
        doc.yes("not the other way", !x.before(0, 1, 2));
        doc.says("If both KEYS are alike: by the TIE, the less number first (without one the YEAR);");
        MeerDrawers y = Check.told("card 8 a;card 3 a;card 5 a;clerk;clerk;tie 0-year;clerk;tie 3-number;clerk;tie year<6;");
        doc.order(y, 0, 1, 2, 0);
        doc.order(y, 1, 0, 2, 1);
        doc.order(y, 2, 2, 1, 0);
        doc.order(y, 3, 0, 1, 2);
        doc.says("if these are alike too, the one with the less number.");
        MeerDrawers z = Check.told("card 8 a;card 3 a;card 8 a;card 3 a;clerk;clerk;tie 7;clerk;tie 0-year;");
        doc.order(z, 0, 1, 3, 0, 2);
        doc.order(z, 1, 0, 1, 2, 3);
        doc.order(z, 2, 0, 2, 1, 3);
    }

    private static void drawer(Sentences doc) {
        doc.says("THE DRAWER holds CARDS, one behind the other (none at first), each once.");
        MeerDrawers x = Check.told("card 1 b;card 1 a;card 1 c;clerk;");
        doc.row(x);
        x.put(0, 0);
        x.put(1, 0);
        x.put(0, 0);
        doc.row(x, 1, 0);
        doc.says("ACTS (at most 40 are kept, the latest ones):");
        Drawers.actSoOften(x, 2, 41);
        doc.due("40 acts", 40, () -> x.count(4));
        for (int i = 0; i < 40; i++) {
            x.undo();
        }
        doc.row(x, 1, 0, 2);
        doc.due("no more", -1, x::undo);
        doc.says("a CARD that isn't in it is PUT in by a CLERK: ahead of the first one in it that it GOES BEFORE by him "
                + "(behind all, if there is none);");
        MeerDrawers y = Check.told("card 1 a;card 1 b;card 1 c;card 1 d;clerk;clerk;fold a d;fold b c;fold c b;fold d a;");
        doc.due("d into nothing", 0, () -> y.put(3, 0));
        doc.due("a, by him who files it behind d", 1, () -> y.put(0, 1));
        doc.row(y, 3, 0);
        doc.due("b ahead of d, though a stands behind", 0, () -> y.put(1, 0));
        doc.due("c, by the other: behind d, ahead of b", 0, () -> y.put(2, 1));
        doc.row(y, 2, 1, 3, 0);
    }

    private static void acts(Sentences doc) {
        doc.says("one is TAKEN out; one is MOVED to another place; all are FILED anew by a CLERK.");
        MeerDrawers x = Drawers.standing("card 1 a;card 1 b;card 1 c;card 1 d;clerk;clerk;fold a z;", 3, 1, 0, 2);
        x.take(1);
        doc.row(x, 3, 0, 2);
        x.move(3, 1);
        doc.row(x, 0, 3, 2);
        x.move(2, 0);
        doc.row(x, 2, 0, 3);
        x.file(0);
        doc.row(x, 0, 2, 3);
        x.file(1);
        doc.row(x, 2, 3, 0);
        doc.due("acts", 13, () -> x.count(4));
        doc.says("They are UNDONE, the last one first.");
        int[][] rows = {{0, 2, 3}, {2, 0, 3}, {0, 3, 2}, {3, 0, 2}, {3, 1, 0, 2}};
        for (int[] row : rows) {
            x.undo();
            doc.row(x, row);
        }
        doc.due("acts that are left", 8, () -> x.count(4));
    }
}
