import java.io.IOException;

/** The document once more from its first line: each of its sentences is quoted, with what it makes due. */
public final class DocumentTest {
    private static void whatItIs(Sentences doc) {
        doc.says("Where one looks for van der Meer: cards with their headings, clerks who each learnt the rules of filing "
                + "otherwise: words that are passed over, spelled as others, letters treated as others, names turned "
                + "about, letter by letter or word by word, what goes first when all is alike by a language; a drawer "
                + "into which they put cards, take them out, move them, all undone; what key a heading has, which card "
                + "goes before which, where two clerks differ, rings of three by their votes; what stands wrong, the "
                + "fewest cards to be moved, the longest row that may stay, search by halves and how many looks; "
                + "compromises, trays with their guides, which clerks could have put all, the fewest who explain a "
                + "drawer, the next card that tells most, what one rule matters, the fewest see-cards, games of two "
                + "clerks, years of filing by a seed.");
        MeerDrawers x = Check.told("card 1 van der meer;card 2 miller;card 3 dijk;card 4 zorn;"
                + "clerk;clerk;turn;clerk;skip van;");
        doc.due("under v", 2, () -> x.rank(0, 0));
        doc.due("under m", 1, () -> x.rank(1, 0));
        doc.due("under d", 0, () -> x.rank(2, 0));
        doc.says("An object is used for at most 512 calls after it has been made; what later calls answer is free.");
        MeerDrawers worn = Check.told("card 1 a;clerk;");
        // The text took two calls: one to feed it, one to read it.
        for (int call = 3; call < 512; call++) {
            worn.take(0);
        }
        doc.due("the 512th call", 509, () -> worn.count(7));
    }

    private static void notPromised(Sentences doc) {
        doc.leavesFree("How the state is held inside the object is free, as are the speed of each call, the text of "
                + "toString and the behaviour of equals and hashCode.");
        doc.leavesFree("Use of one object from several threads at once is not promised to be safe.");
        doc.leavesFree("Nothing is promised beyond the answers and state changes described above, and nothing about an "
                + "object after its 512th call.");
    }

    public static void main(String[] args) throws IOException {
        Sentences doc = new Sentences();
        whatItIs(doc);
        DocumentOfTexts.read(doc);
        DocumentOfKeys.read(doc);
        DocumentOfQuestions.read(doc);
        DocumentOfPromises.read(doc);
        notPromised(doc);
        doc.end();
    }
}
