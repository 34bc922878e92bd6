import java.util.ArrayDeque;
import java.util.ArrayList;
import java.util.Collections;
import java.util.Deque;
import java.util.HashSet;
import java.util.IdentityHashMap;
import java.util.List;
import java.util.Map;
import java.util.Set;
import java.util.function.IntUnaryOperator;

/**
 * The document's terms written a second time, by other means than the class itself: texts as keys,
 * all subsets and all rows tried. RandomRunTest holds the class against it.
 */
final class Model {
    record Card(int year, List<String> words) { }

    record Rule(String kind, String from, String to) { }

    static final class Clerk {
        final List<Rule> rules = new ArrayList<>();
        boolean turn;
        boolean join;
        IntUnaryOperator tie;

        Clerk copy() {
            Clerk other = new Clerk();
            other.rules.addAll(rules);
            other.turn = turn;
            other.join = join;
            other.tie = tie;
            return other;
        }
    }

    final List<Card> cards = new ArrayList<>();
    final List<Clerk> clerks = new ArrayList<>();
    List<Integer> drawer = new ArrayList<>();
    Deque<List<Integer>> acts = new ArrayDeque<>();
    List<Integer> imageDrawer;
    Deque<List<Integer>> imageActs;
    List<Integer> stay;
    int refusedActs;
    private final Map<Clerk, Boolean[]> compared = new IdentityHashMap<>();
    private List<Integer> compromiseRow;
    private int compromiseHurt;

    // ---- Keys ----

    static String key(Clerk clerk, Card card) {
        List<String> words = new ArrayList<>();
        for (String word : card.words()) {
            String spelled = word;
            for (Rule rule : clerk.rules) {
                if (rule.kind().equals("spell") && rule.from().equals(word)) {
                    spelled = rule.to();
                }
            }
            StringBuilder folded = new StringBuilder();
            for (char letter : spelled.toCharArray()) {
                char as = letter;
                for (Rule rule : clerk.rules) {
                    if (rule.kind().equals("fold") && rule.from().charAt(0) == letter) {
                        as = rule.to().charAt(0);
                    }
                }
                folded.append(as);
            }
            words.add(folded.toString());
        }
        while (words.size() > 1 && clerk.rules.contains(new Rule("skip", words.get(0), null))) {
            words.remove(0);
        }
        if (clerk.turn) {
            words.add(0, words.remove(words.size() - 1));
        }
        return String.join(clerk.join ? "" : " ", words);
    }

    /** Compared once for each two cards of a clerk: the trials below ask very often. */
    boolean before(Clerk clerk, int card, int other) {
        Boolean[] known = compared.computeIfAbsent(clerk, one -> new Boolean[100]);
        if (known[10 * card + other] == null) {
            known[10 * card + other] = goesBefore(clerk, card, other);
        }
        return known[10 * card + other];
    }

    private boolean goesBefore(Clerk clerk, int card, int other) {
        int compared = key(clerk, cards.get(card)).compareTo(key(clerk, cards.get(other)));
        if (compared == 0 && clerk.tie != null) {
            compared = Integer.compare(clerk.tie.applyAsInt(card), clerk.tie.applyAsInt(other));
        } else if (compared == 0) {
            compared = cards.get(card).year() - cards.get(other).year();
        }
        return compared == 0 ? card < other : compared < 0;
    }

    boolean before(int clerk, int card, int other) {
        return before(clerks.get(clerk), card, other);
    }

    int rank(int clerk, int card) {
        int rank = 0;
        for (int other = 0; other < cards.size(); other++) {
            rank += before(clerk, other, card) ? 1 : 0;
        }
        return rank;
    }

    List<Integer> filed(List<Integer> row, int clerk) {
        List<Integer> filed = new ArrayList<>(row);
        filed.sort((a, b) -> a.equals(b) ? 0 : before(clerk, a, b) ? -1 : 1);
        return filed;
    }

    List<Integer> all() {
        List<Integer> all = new ArrayList<>();
        for (int card = 0; card < cards.size(); card++) {
            all.add(card);
        }
        return all;
    }

    int first(int card) {
        int bits = 0;
        for (int clerk = 0; clerk < clerks.size(); clerk++) {
            bits += filed(all(), clerk).indexOf(card) == 0 ? 1 << clerk : 0;
        }
        return bits;
    }

    // ---- The drawer ----

    static int bits(List<Integer> some) {
        int bits = 0;
        for (int one : some) {
            bits |= 1 << one;
        }
        return bits;
    }

    private void act() {
        acts.addLast(new ArrayList<>(drawer));
        if (acts.size() > 40) {
            acts.removeFirst();
        }
    }

    int placeFor(List<Integer> row, int card, int clerk) {
        for (int place = 0; place < row.size(); place++) {
            if (before(clerk, card, row.get(place))) {
                return place;
            }
        }
        return row.size();
    }

    int put(int card, int clerk) {
        if (drawer.contains(card)) {
            refusedActs++;
            return -1;
        }
        int place = placeFor(drawer, card, clerk);
        act();
        drawer.add(place, card);
        return place;
    }

    int take(int card) {
        int place = drawer.indexOf(card);
        if (place < 0) {
            refusedActs++;
            return -1;
        }
        act();
        drawer.remove(place);
        return place;
    }

    int move(int card, int place) {
        int from = drawer.indexOf(card);
        if (from < 0 || place < 0 || place >= drawer.size()) {
            refusedActs++;
            return -1;
        }
        act();
        drawer.remove(from);
        drawer.add(place, card);
        return from;
    }

    int file(int clerk) {
        act();
        List<Integer> filed = filed(drawer, clerk);
        int elsewhere = 0;
        for (int card : drawer) {
            elsewhere += drawer.indexOf(card) == filed.indexOf(card) ? 0 : 1;
        }
        drawer = filed;
        return elsewhere;
    }

    int undo() {
        if (acts.isEmpty()) {
            return -1;
        }
        drawer = new ArrayList<>(acts.removeLast());
        return acts.size();
    }

    void image() {
        imageDrawer = new ArrayList<>(drawer);
        imageActs = new ArrayDeque<>(acts);
    }

    boolean restore() {
        if (imageDrawer == null) {
            return false;
        }
        drawer = new ArrayList<>(imageDrawer);
        acts = new ArrayDeque<>(imageActs);
        return true;
    }

    // ---- Votes ----

    List<Integer> apart(Clerk clerk, Clerk other, List<Integer> among) {
        List<Integer> apart = new ArrayList<>();
        for (int a : among) {
            for (int b : among) {
                if (a < b && before(clerk, a, b) != before(other, a, b)) {
                    apart.add(10 * a + b);
                }
            }
        }
        Collections.sort(apart);
        return apart;
    }

    int votes(int card, int other) {
        int votes = 0;
        for (Clerk clerk : clerks) {
            votes += before(clerk, card, other) ? 1 : 0;
            votes -= before(clerk, other, card) ? 1 : 0;
        }
        return card == other ? 0 : votes;
    }

    int ring() {
        for (int number = 0; number < 1000; number++) {
            int a = number / 100;
            int b = number / 10 % 10;
            int c = number % 10;
            if (a < b && a < c && b != c && Math.max(b, c) < cards.size()
                    && votes(a, b) > 0 && votes(b, c) > 0 && votes(c, a) > 0) {
                return number;
            }
        }
        return -1;
    }

    int head() {
        for (int card = 0; card < cards.size(); card++) {
            boolean all = true;
            for (int other = 0; other < cards.size(); other++) {
                all &= other == card || votes(card, other) > 0;
            }
            if (all) {
                return card;
            }
        }
        return -1;
    }

    int compromise(int i) {
        if (compromiseRow == null) {
            compromiseHurt = Integer.MAX_VALUE;
            tryRows(new ArrayList<>(), 0);
        }
        return i == -1 ? compromiseHurt : compromiseRow.get(i);
    }

    /** Rows in the order of their numbers, so the first of like ones is kept. */
    private void tryRows(List<Integer> row, int hurt) {
        if (hurt >= compromiseHurt) {
            return;
        }
        if (row.size() == cards.size()) {
            compromiseHurt = hurt;
            compromiseRow = new ArrayList<>(row);
            return;
        }
        for (int card = 0; card < cards.size(); card++) {
            if (!row.contains(card)) {
                int more = 0;
                for (int ahead : row) {
                    more += (clerks.size() - votes(ahead, card)) / 2;
                }
                row.add(card);
                tryRows(row, hurt + more);
                row.remove(row.size() - 1);
            }
        }
    }

    int agreed() {
        int best = 0;
        for (int set = 0; set < 1 << cards.size(); set++) {
            boolean chain = true;
            for (int a = 0; a < cards.size(); a++) {
                for (int b = a + 1; b < cards.size(); b++) {
                    if ((set >> a & set >> b & 1) == 1) {
                        chain &= Math.abs(votes(a, b)) == clerks.size();
                    }
                }
            }
            best = chain ? Math.max(best, Integer.bitCount(set)) : best;
        }
        return best;
    }

    int closest(int what) {
        int fewest = -1;
        int who = -1;
        for (int a = 0; a < clerks.size(); a++) {
            for (int b = a + 1; b < clerks.size(); b++) {
                int apart = apart(clerks.get(a), clerks.get(b), all()).size();
                if (fewest < 0 || apart < fewest) {
                    fewest = apart;
                    who = 10 * a + b;
                }
            }
        }
        return what == 0 ? fewest : who;
    }

    // ---- What stands wrong ----

    int wrong(List<Integer> row, int clerk) {
        int wrong = 0;
        for (int i = 0; i < row.size(); i++) {
            for (int j = 0; j < i; j++) {
                wrong += before(clerk, row.get(i), row.get(j)) ? 1 : 0;
            }
        }
        return wrong;
    }

    /** Of all rows of places that may stay: the longest, of these the first by the places. */
    List<Integer> longestStay(int clerk) {
        List<Integer> best = new ArrayList<>();
        for (int set = 0; set < 1 << drawer.size(); set++) {
            List<Integer> places = new ArrayList<>();
            List<Integer> row = new ArrayList<>();
            for (int place = 0; place < drawer.size(); place++) {
                if ((set >> place & 1) == 1) {
                    places.add(place);
                    row.add(drawer.get(place));
                }
            }
            boolean better = places.size() > best.size()
                    || places.size() == best.size() && places.toString().compareTo(best.toString()) < 0;
            if (better && wrong(row, clerk) == 0) {
                best = places;
            }
        }
        List<Integer> row = new ArrayList<>();
        for (int place : best) {
            row.add(drawer.get(place));
        }
        return row;
    }

    int stay(int clerk) {
        stay = longestStay(clerk);
        return stay.size();
    }

    /** The places that are looked at; the last one is where the card is, if it is found. */
    List<Integer> looks(List<Integer> row, int clerk, int card) {
        List<Integer> looks = new ArrayList<>();
        int lo = 0;
        int hi = row.size() - 1;
        while (lo <= hi) {
            int place = (lo + hi) / 2;
            looks.add(row.get(place));
            if (row.get(place) == card) {
                return looks;
            }
            if (before(clerk, card, row.get(place))) {
                hi = place - 1;
            } else {
                lo = place + 1;
            }
        }
        return looks;
    }

    boolean found(List<Integer> row, int clerk, int card) {
        return looks(row, clerk, card).contains(card);
    }

    int mostLooks(int clerk) {
        int most = 0;
        for (int card : all()) {
            most = Math.max(most, looks(drawer, clerk, card).size());
        }
        return most;
    }

    int worst(int clerk, int what) {
        int most = 0;
        int worst = -1;
        for (int card : all()) {
            if (drawer.contains(card)) {
                List<Integer> without = new ArrayList<>(drawer);
                without.remove((Integer) card);
                int much = what == 0 ? wrong(drawer, clerk) - wrong(without, clerk) : looks(drawer, clerk, card).size();
                if (much > most) {
                    most = much;
                    worst = card;
                }
            }
        }
        return worst;
    }

    int trayCount(int many) {
        int trays = 0;
        for (int card = 0; card < drawer.size(); card += many) {
            trays++;
        }
        return trays;
    }

    int guide(int clerk, int many, int tray) {
        if (tray == 0) {
            return 0;
        }
        List<Integer> filed = filed(drawer, clerk);
        String first = key(clerks.get(clerk), cards.get(filed.get(tray * many)));
        String last = key(clerks.get(clerk), cards.get(filed.get(tray * many - 1)));
        for (int told = 0; told <= first.length(); told++) {
            if (first.substring(0, told).compareTo(last) > 0) {
                return told;
            }
        }
        return first.length();
    }

    // ---- Which clerks, which card, which rule ----

    int could() {
        int bits = 0;
        for (int clerk = 0; clerk < clerks.size(); clerk++) {
            bits |= filed(drawer, clerk).equals(drawer) ? 1 << clerk : 0;
        }
        return bits;
    }

    int explained() {
        int best = -1;
        for (int set = (1 << clerks.size()) - 1; set >= 0; set--) {
            boolean explains = true;
            for (int place = 0; place + 1 < drawer.size(); place++) {
                boolean one = false;
                for (int clerk = 0; clerk < clerks.size(); clerk++) {
                    one |= (set >> clerk & 1) == 1 && before(clerk, drawer.get(place), drawer.get(place + 1));
                }
                explains &= one;
            }
            if (explains && (best < 0 || Integer.bitCount(set) <= Integer.bitCount(best))) {
                best = set;
            }
        }
        return best;
    }

    int telling(int what) {
        int telling = -1;
        int most = -1;
        for (int card : all()) {
            Set<Integer> places = new HashSet<>();
            for (int clerk = 0; clerk < clerks.size(); clerk++) {
                places.add(placeFor(drawer, card, clerk));
            }
            if (!drawer.contains(card) && places.size() > most) {
                most = places.size();
                telling = card;
            }
        }
        return what == 0 ? telling : Math.max(0, most);
    }

    int matters(int clerk, int i) {
        Clerk other = clerks.get(clerk).copy();
        if (i >= 0) {
            other.rules.remove(i);
        } else if (i == -1) {
            other.turn = !other.turn;
        } else if (i == -2) {
            other.join = !other.join;
        } else {
            other.tie = null;
        }
        return apart(clerks.get(clerk), other, all()).size();
    }

    int sees() {
        Set<String> sees = new HashSet<>();
        for (int card : drawer) {
            for (int clerk = 0; clerk < clerks.size(); clerk++) {
                if (!found(drawer, clerk, card)) {
                    sees.add(card + ":" + key(clerks.get(clerk), cards.get(card)));
                }
            }
        }
        return sees.size();
    }

    int reader(int clerk, int card, int letters) {
        String key = key(clerks.get(clerk), cards.get(card));
        String begin = key.length() < letters ? key : key.substring(0, letters);
        int bits = 0;
        for (int other : all()) {
            bits |= key(clerks.get(clerk), cards.get(other)).startsWith(begin) ? 1 << other : 0;
        }
        return bits;
    }

    // ---- Games and years ----

    int game(int clerk, int other, int much, int what) {
        int[] who = {clerk, other};
        int[][][] loss = new int[2][2][2];
        for (int p = 0; p < 2; p++) {
            for (int q = 0; q < 2; q++) {
                for (int player = 0; player < 2; player++) {
                    loss[player][p][q] = p == q ? wrong(filed(drawer, who[p]), who[player]) : much;
                }
            }
        }
        List<Integer> resting = new ArrayList<>();
        for (int p = 0; p < 2; p++) {
            for (int q = 0; q < 2; q++) {
                if (!(loss[0][1 - p][q] < loss[0][p][q]) && !(loss[1][p][1 - q] < loss[1][p][q])) {
                    resting.add(10 * p + q);
                }
            }
        }
        return what == 0 ? resting.size() : resting.isEmpty() ? -1 : resting.get(0);
    }

    int years(int seed, int n, int what) {
        List<Integer> row = new ArrayList<>(drawer);
        int missed = 0;
        long state = seed;
        for (int year = 0; year < n && !cards.isEmpty() && !clerks.isEmpty(); year++) {
            state = (int) (state * 1103515245L + 12345L);
            int card = (int) ((state & 0x7fffffffL) / 65536 % cards.size());
            state = (int) (state * 1103515245L + 12345L);
            int clerk = (int) ((state & 0x7fffffffL) / 65536 % clerks.size());
            if (!row.contains(card)) {
                row.add(placeFor(row, card, clerk), card);
            } else if (found(row, clerk, card)) {
                row.remove((Integer) card);
            } else {
                missed++;
            }
        }
        return what == 0 ? missed : what == 1 ? row.size() : clerks.isEmpty() ? 0 : wrong(row, 0);
    }
}
