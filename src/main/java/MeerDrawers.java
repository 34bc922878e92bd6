import java.util.NoSuchElementException;

/**
 * Cards with their headings, clerks who each file them by rules of their own,
 * and one drawer into which all of them file.
 */
public final class MeerDrawers {
    public static final int NONE = -1;

    private static final int MOST_CARDS = 10;
    private static final int MOST_CLERKS = 4;
    private static final int MOST_WORDS = 4;
    private static final int MOST_LETTERS = 8;
    private static final int MOST_RULES = 8;
    private static final int MOST_BYTES = 700;
    private static final int BYTES_OF_A_FEED = 20;
    private static final int MOST_ACTS = 40;
    private static final int MOST_YEARS = 60;
    private static final int MOST_READ = 9;
    private static final int MOST_LOST = 99;
    private static final int NOT_IN_IT = -99;

    private final Parser parser = new Parser();
    private final Tape tape = parser.tokens.tape;
    private final Orders orders = new Orders();
    private final Row standing = new Row();
    private final Row trial = new Row();
    private final Acts acts = new Acts();
    private final Acts imageActs = new Acts();
    private final Compromise middle = new Compromise();
    private final int[] stayRow = new int[MOST_CARDS];
    private final int[] lengths = new int[MOST_CARDS];
    private Catalogue told = new Catalogue();
    private int staySize = 0;
    private boolean hasImage = false;
    private long imageRow = 0;
    private int faultPlace = NONE;
    private int refusedTexts = 0;
    private int refusedActs = 0;

    public MeerDrawers() {
    }

    // ---- The text and what it tells ----

    public int feed(int a, int b, int c, int d, int e) {
        if (!tape.hasRoomFor(BYTES_OF_A_FEED)) {
            return NONE;
        }
        tape.addNumber(a);
        tape.addNumber(b);
        tape.addNumber(c);
        tape.addNumber(d);
        tape.addNumber(e);
        return tape.length;
    }

    public int catalogue(int n) throws IllegalArgumentException {
        if (n < 0 || n > tape.length) {
            throw new IllegalArgumentException("the tape has not so many bytes");
        }
        int found = parser.parse(n);
        tape.length = 0;
        faultPlace = parser.place;
        if (found == Parser.NO_FAULT) {
            told = parser.handOver(told);
            beginAnew();
        } else {
            refusedTexts++;
        }
        return found;
    }

    private void beginAnew() {
        for (int clerk = 0; clerk < told.clerks; clerk++) {
            orders.learn(told, clerk);
            orders.arrange(told, clerk, clerk);
        }
        middle.settled = false;
        standing.size = 0;
        acts.size = 0;
        staySize = 0;
        hasImage = false;
    }

    public int fault() {
        return faultPlace;
    }

    public int count(int what) throws NoSuchElementException {
        switch (what) {
            case 0: return told.cards;
            case 1: return told.clerks;
            case 2: return standing.size;
            case 3: return standing.bits();
            case 4: return acts.size;
            case 5: return tape.length;
            case 6: return refusedTexts;
            case 7: return refusedActs;
            default: throw new NoSuchElementException("no such count");
        }
    }

    public int card(int card, int what) throws NoSuchElementException {
        needCard(card);
        switch (what) {
            case 0: return told.year[card];
            case 1: return told.words[card];
            case 2: return told.letters[card];
            case 3: return standing.placeOf(card);
            case 4: return clerksWhoHaveFirst(card);
            default: throw new NoSuchElementException("no such thing of a card");
        }
    }

    private int clerksWhoHaveFirst(int card) {
        int bits = 0;
        for (int clerk = 0; clerk < told.clerks; clerk++) {
            if (orders.rankOf(clerk, card) == 0) {
                bits |= 1 << clerk;
            }
        }
        return bits;
    }

    public int clerk(int clerk, int what) throws NoSuchElementException {
        needClerk(clerk);
        switch (what) {
            case 0: return told.rules[clerk];
            case 1: return told.turns[clerk] ? 1 : 0;
            case 2: return told.joins[clerk] ? 1 : 0;
            case 3: return told.tied[clerk] ? 1 : 0;
            case 4: return standing.wrongBy(orders, clerk);
            case 5: return standing.size - longestStay(clerk);
            case 6: return mostLooks(clerk);
            default: throw new NoSuchElementException("no such thing of a clerk");
        }
    }

    private int mostLooks(int clerk) {
        int most = 0;
        for (int card = 0; card < told.cards; card++) {
            most = Math.max(most, standing.looksFor(orders, clerk, card));
        }
        return most;
    }

    private void needCard(int card) {
        if (card < 0 || card >= told.cards) {
            throw new NoSuchElementException("no such card");
        }
    }

    private void needClerk(int clerk) {
        if (clerk < 0 || clerk >= told.clerks) {
            throw new NoSuchElementException("no such clerk");
        }
    }

    /** Many calls have two answers and refuse any other what. */
    private static void needZeroOrOne(int what) {
        if (what != 0 && what != 1) {
            throw new NoSuchElementException("no such what");
        }
    }

    // ---- Keys and orders ----

    public int key(int clerk, int card, int i) throws NoSuchElementException {
        needClerk(clerk);
        needCard(card);
        int length = orders.keyLength(clerk, card);
        if (i == NONE) {
            return length;
        }
        if (i < 0 || i >= length) {
            throw new NoSuchElementException("the key has not so many");
        }
        return orders.keySign(clerk, card, i);
    }

    public boolean before(int clerk, int card, int other) throws NoSuchElementException {
        needClerk(clerk);
        needCard(card);
        needCard(other);
        return orders.isAhead(clerk, card, other);
    }

    public int rank(int clerk, int card) throws NoSuchElementException {
        needClerk(clerk);
        needCard(card);
        return orders.rankOf(clerk, card);
    }

    public int at(int clerk, int rank) throws NoSuchElementException {
        needClerk(clerk);
        if (rank < 0 || rank >= told.cards) {
            throw new NoSuchElementException("no such rank");
        }
        return orders.cardOfRank(clerk, rank);
    }

    // ---- The drawer and its acts ----

    public int drawer(int place) throws NoSuchElementException {
        if (place < 0 || place >= standing.size) {
            throw new NoSuchElementException("no such place");
        }
        return standing.cards[place];
    }

    public int put(int card, int clerk) throws NoSuchElementException {
        needCard(card);
        needClerk(clerk);
        if (standing.placeOf(card) != NONE) {
            return refuseAct();
        }
        int place = standing.placeFor(orders, clerk, card);
        acts.keep(standing.packed());
        standing.insert(place, card);
        return place;
    }

    public int take(int card) throws NoSuchElementException {
        needCard(card);
        int place = standing.placeOf(card);
        if (place == NONE) {
            return refuseAct();
        }
        acts.keep(standing.packed());
        standing.remove(place);
        return place;
    }

    public int move(int card, int place) throws NoSuchElementException {
        needCard(card);
        int from = standing.placeOf(card);
        if (from == NONE || place < 0 || place >= standing.size) {
            return refuseAct();
        }
        acts.keep(standing.packed());
        standing.remove(from);
        standing.insert(place, card);
        return from;
    }

    public int file(int clerk) throws NoSuchElementException {
        needClerk(clerk);
        trial.copy(standing);
        acts.keep(standing.packed());
        standing.sort(orders, clerk);
        int elsewhere = 0;
        for (int place = 0; place < standing.size; place++) {
            if (standing.cards[place] != trial.cards[place]) {
                elsewhere++;
            }
        }
        return elsewhere;
    }

    private int refuseAct() {
        refusedActs++;
        return NONE;
    }

    public int undo() {
        if (acts.size == 0) {
            return NONE;
        }
        standing.unpack(acts.dropLatest());
        return acts.size;
    }

    public void image() {
        imageRow = standing.packed();
        imageActs.copy(acts);
        hasImage = true;
    }

    public boolean restore() {
        if (!hasImage) {
            return false;
        }
        standing.unpack(imageRow);
        acts.copy(imageActs);
        return true;
    }

    // ---- Where clerks differ, and their votes ----

    public int differ(int clerk, int other, int what) throws NoSuchElementException {
        needClerk(clerk);
        needClerk(other);
        needZeroOrOne(what);
        return what == 0 ? couplesApart(clerk, other) : firstCoupleApart(clerk, other);
    }

    private boolean isApart(int order, int another, int card, int other) {
        return orders.isAhead(order, card, other) != orders.isAhead(another, card, other);
    }

    private int couplesApart(int order, int another) {
        int couples = 0;
        for (int card = 0; card < told.cards; card++) {
            for (int other = card + 1; other < told.cards; other++) {
                if (isApart(order, another, card, other)) {
                    couples++;
                }
            }
        }
        return couples;
    }

    private int firstCoupleApart(int order, int another) {
        for (int card = 0; card < told.cards; card++) {
            for (int other = card + 1; other < told.cards; other++) {
                if (isApart(order, another, card, other)) {
                    return 10 * card + other;
                }
            }
        }
        return NONE;
    }

    public int closest(int what) throws NoSuchElementException {
        needZeroOrOne(what);
        int fewest = NONE;
        int clerks = NONE;
        for (int clerk = 0; clerk < told.clerks; clerk++) {
            for (int other = clerk + 1; other < told.clerks; other++) {
                int couples = couplesApart(clerk, other);
                if (fewest == NONE || couples < fewest) {
                    fewest = couples;
                    clerks = 10 * clerk + other;
                }
            }
        }
        return what == 0 ? fewest : clerks;
    }

    public int votes(int card, int other) throws NoSuchElementException {
        needCard(card);
        needCard(other);
        return lead(card, other);
    }

    private int lead(int card, int other) {
        return card == other ? 0 : 2 * clerksFor(card, other) - told.clerks;
    }

    private int clerksFor(int card, int other) {
        int clerks = 0;
        for (int clerk = 0; clerk < told.clerks; clerk++) {
            if (orders.isAhead(clerk, card, other)) {
                clerks++;
            }
        }
        return clerks;
    }

    public int ring() {
        for (int a = 0; a < told.cards; a++) {
            for (int b = a + 1; b < told.cards; b++) {
                if (lead(a, b) > 0) {
                    int c = thirdOfRing(a, b);
                    if (c != NONE) {
                        return 100 * a + 10 * b + c;
                    }
                }
            }
        }
        return NONE;
    }

    private int thirdOfRing(int a, int b) {
        for (int c = a + 1; c < told.cards; c++) {
            if (lead(b, c) > 0 && lead(c, a) > 0) {
                return c;
            }
        }
        return NONE;
    }

    public int head() {
        for (int card = 0; card < told.cards; card++) {
            if (leadsAll(card)) {
                return card;
            }
        }
        return NONE;
    }

    private boolean leadsAll(int card) {
        for (int other = 0; other < told.cards; other++) {
            if (other != card && lead(card, other) <= 0) {
                return false;
            }
        }
        return true;
    }

    public int compromise(int i) throws NoSuchElementException {
        if (i < NONE || i >= told.cards) {
            throw new NoSuchElementException("the row has not so many");
        }
        if (!middle.settled) {
            weighCompromise();
        }
        return i == NONE ? middle.hurt : middle.row[i];
    }

    private void weighCompromise() {
        for (int card = 0; card < told.cards; card++) {
            for (int other = 0; other < told.cards; other++) {
                middle.setHurt(card, other, clerksFor(other, card));
            }
        }
        middle.settle(told.cards);
    }

    public int agreed() {
        if (told.clerks == 0) {
            return told.cards;
        }
        int longest = 0;
        // What all agree on goes along with the order of any one of them.
        for (int rank = 0; rank < told.cards; rank++) {
            int card = orders.cardOfRank(0, rank);
            lengths[rank] = 1;
            for (int ahead = 0; ahead < rank; ahead++) {
                if (clerksFor(orders.cardOfRank(0, ahead), card) == told.clerks) {
                    lengths[rank] = Math.max(lengths[rank], lengths[ahead] + 1);
                }
            }
            longest = Math.max(longest, lengths[rank]);
        }
        return longest;
    }

    // ---- What stands wrong, and what may stay ----

    public int stay(int clerk) throws NoSuchElementException {
        needClerk(clerk);
        int wanted = longestStay(clerk);
        int latest = NONE;
        staySize = 0;
        for (int place = 0; place < standing.size; place++) {
            int card = standing.cards[place];
            if (lengths[place] == wanted && (latest == NONE || orders.isAhead(clerk, latest, card))) {
                stayRow[staySize] = card;
                staySize++;
                latest = card;
                wanted--;
            }
        }
        return staySize;
    }

    /** Leaves in lengths how long the longest row from each place on is. */
    private int longestStay(int clerk) {
        int longest = 0;
        for (int place = standing.size - 1; place >= 0; place--) {
            lengths[place] = 1;
            for (int behind = place + 1; behind < standing.size; behind++) {
                if (orders.isAhead(clerk, standing.cards[place], standing.cards[behind])) {
                    lengths[place] = Math.max(lengths[place], lengths[behind] + 1);
                }
            }
            longest = Math.max(longest, lengths[place]);
        }
        return longest;
    }

    public int stays(int i) throws NoSuchElementException {
        if (i < 0 || i >= staySize) {
            throw new NoSuchElementException("no such card is kept");
        }
        return stayRow[i];
    }

    public int off(int clerk, int card) throws NoSuchElementException {
        needClerk(clerk);
        needCard(card);
        int place = standing.placeOf(card);
        return place == NONE ? NOT_IN_IT : place - standing.countAhead(orders, clerk, card);
    }

    public int worst(int clerk, int what) throws NoSuchElementException {
        needClerk(clerk);
        needZeroOrOne(what);
        int most = 0;
        int worst = NONE;
        for (int card = 0; card < told.cards; card++) {
            if (standing.placeOf(card) != NONE) {
                int much = what == 0 ? standing.wrongWith(orders, clerk, card) : standing.looksFor(orders, clerk, card);
                if (much > most) {
                    most = much;
                    worst = card;
                }
            }
        }
        return worst;
    }

    public int trays(int clerk, int many, int tray) throws NoSuchElementException, IllegalArgumentException {
        needClerk(clerk);
        if (many < 1 || many > MOST_CARDS) {
            throw new IllegalArgumentException("a tray has 1 to 10 cards");
        }
        int trays = (standing.size + many - 1) / many;
        if (tray < NONE || tray >= trays) {
            throw new NoSuchElementException("no such tray");
        }
        if (tray == NONE) {
            return trays;
        }
        return tray == 0 ? 0 : guide(clerk, tray * many);
    }

    /** The guide of a tray whose first card would stand at a place (above 0). */
    private int guide(int clerk, int place) {
        trial.copy(standing);
        trial.sort(orders, clerk);
        if (place < 1 || place >= trial.size) {
            return 0;
        }
        return orders.guideLength(clerk, trial.cards[place], trial.cards[place - 1]);
    }

    // ---- Search ----

    public int search(int clerk, int card, int what) throws NoSuchElementException {
        needClerk(clerk);
        needCard(card);
        needZeroOrOne(what);
        if (what == 0) {
            return standing.looksFor(orders, clerk, card);
        }
        return standing.finds(orders, clerk, card) ? 1 : 0;
    }

    public int sees() {
        int sees = 0;
        for (int place = 0; place < standing.size; place++) {
            for (int clerk = 0; clerk < told.clerks; clerk++) {
                if (needsSeeCard(clerk, standing.cards[place])) {
                    sees++;
                }
            }
        }
        return sees;
    }

    /** Whether a clerk misses a card, and none ahead of him misses it under the same key. */
    private boolean needsSeeCard(int clerk, int card) {
        if (standing.finds(orders, clerk, card)) {
            return false;
        }
        for (int earlier = 0; earlier < clerk; earlier++) {
            if (!standing.finds(orders, earlier, card) && orders.hasSameKey(earlier, clerk, card)) {
                return false;
            }
        }
        return true;
    }

    public int reader(int clerk, int card, int letters) throws NoSuchElementException, IllegalArgumentException {
        needClerk(clerk);
        needCard(card);
        if (letters < 0 || letters > MOST_READ) {
            throw new IllegalArgumentException("a reader knows 0 to 9 letters");
        }
        int bits = 0;
        for (int other = 0; other < told.cards; other++) {
            if (orders.beginsAlike(clerk, card, other, letters)) {
                bits |= 1 << other;
            }
        }
        return bits;
    }

    // ---- Which clerks, which card, which rule ----

    public int could() {
        int bits = 0;
        for (int clerk = 0; clerk < told.clerks; clerk++) {
            if (standing.wrongBy(orders, clerk) == 0) {
                bits |= 1 << clerk;
            }
        }
        return bits;
    }

    public int explained() {
        int best = NONE;
        int sets = 1 << told.clerks;
        for (int set = 0; set < sets; set++) {
            if ((best == NONE || Integer.bitCount(set) < Integer.bitCount(best)) && explains(set)) {
                best = set;
            }
        }
        return best;
    }

    private boolean explains(int set) {
        for (int place = 1; place < standing.size; place++) {
            boolean stands = false;
            for (int clerk = 0; clerk < told.clerks; clerk++) {
                if ((set >> clerk & 1) == 1
                        && orders.isAhead(clerk, standing.cards[place - 1], standing.cards[place])) {
                    stands = true;
                }
            }
            if (!stands) {
                return false;
            }
        }
        return true;
    }

    public int telling(int what) throws NoSuchElementException {
        needZeroOrOne(what);
        int telling = NONE;
        int most = 0;
        for (int card = 0; card < told.cards; card++) {
            if (standing.placeOf(card) == NONE) {
                int places = unlikePlaces(card);
                if (telling == NONE || places > most) {
                    telling = card;
                    most = places;
                }
            }
        }
        return what == 0 ? telling : most;
    }

    private int unlikePlaces(int card) {
        int places = 0;
        for (int clerk = 0; clerk < told.clerks; clerk++) {
            places |= 1 << standing.placeFor(orders, clerk, card);
        }
        return Integer.bitCount(places);
    }

    public int matters(int clerk, int i) throws NoSuchElementException {
        needClerk(clerk);
        if (i < -3 || i >= told.rules[clerk]) {
            throw new NoSuchElementException("no such rule");
        }
        orders.learn(told, clerk);
        switch (i) {
            case -1: orders.turning = !orders.turning; break;
            case -2: orders.joining = !orders.joining; break;
            case -3: orders.tying = false; break;
            default: orders.dropped = i; break;
        }
        orders.arrange(told, clerk, Orders.OTHERWISE);
        return couplesApart(clerk, Orders.OTHERWISE);
    }

    // ---- Games and years ----

    public int game(int clerk, int other, int much, int what) throws NoSuchElementException, IllegalArgumentException {
        needClerk(clerk);
        needClerk(other);
        needZeroOrOne(what);
        if (clerk == other || much < 0 || much > MOST_LOST) {
            throw new IllegalArgumentException("two clerks play for 0 to 99");
        }
        int apart = couplesApartInDrawer(clerk, other);
        int resting = 0;
        int first = NONE;
        for (int couple = 0; couple < 4; couple++) {
            int one = couple / 2;
            int another = couple % 2;
            if (rests(one, another, apart, much)) {
                resting++;
                first = first == NONE ? 10 * one + another : first;
            }
        }
        return what == 0 ? resting : first;
    }

    private int couplesApartInDrawer(int clerk, int other) {
        int couples = 0;
        for (int place = 0; place < standing.size; place++) {
            for (int behind = place + 1; behind < standing.size; behind++) {
                if (isApart(clerk, other, standing.cards[place], standing.cards[behind])) {
                    couples++;
                }
            }
        }
        return couples;
    }

    private static boolean rests(int one, int another, int apart, int much) {
        return loss(0, one, another, apart, much) <= loss(0, 1 - one, another, apart, much)
                && loss(1, one, another, apart, much) <= loss(1, one, 1 - another, apart, much);
    }

    /** What a player (0, 1) loses: nothing is wrong by him, if it is filed by his own rules. */
    private static int loss(int player, int one, int another, int apart, int much) {
        if (one != another) {
            return much;
        }
        return one == player ? 0 : apart;
    }

    public int years(int seed, int n, int what) throws NoSuchElementException, IllegalArgumentException {
        if (what < 0 || what > 2) {
            throw new NoSuchElementException("no such what");
        }
        if (n < 0 || n > MOST_YEARS) {
            throw new IllegalArgumentException("0 to 60 years");
        }
        trial.copy(standing);
        int missed = told.cards == 0 || told.clerks == 0 ? 0 : missedInYears(seed, n);
        if (what == 0) {
            return missed;
        }
        if (what == 1) {
            return trial.size;
        }
        return told.clerks == 0 ? 0 : trial.wrongBy(orders, 0);
    }

    private int missedInYears(int seed, int n) {
        int missed = 0;
        int drawn = seed;
        for (int year = 0; year < n; year++) {
            drawn = nextSeed(drawn);
            int card = draw(drawn, told.cards);
            drawn = nextSeed(drawn);
            int clerk = draw(drawn, told.clerks);
            int place = trial.placeOf(card);
            if (place == NONE) {
                trial.insert(trial.placeFor(orders, clerk, card), card);
            } else if (trial.finds(orders, clerk, card)) {
                trial.remove(place);
            } else {
                missed++;
            }
        }
        return missed;
    }

    private static int nextSeed(int seed) {
        return seed * 1103515245 + 12345;
    }

    private static int draw(int seed, int n) {
        return n < 1 ? 0 : (seed >>> 16 & 0x7fff) % n;
    }

    // ---- The classes inside ----

    /** The bytes that were fed and not yet read as a text. */
    private static final class Tape {
        private final byte[] bytes = new byte[MOST_BYTES];
        private int length = 0;

        boolean hasRoomFor(int more) {
            return length + more <= MOST_BYTES;
        }

        void addNumber(int number) {
            for (int shift = 24; shift >= 0; shift -= 8) {
                if (length < MOST_BYTES) {
                    bytes[length] = (byte) (number >> shift);
                    length++;
                }
            }
        }

        int signAt(int place) {
            return place < 0 || place >= length ? NONE : bytes[place] & 255;
        }
    }

    /** The tokens of a text, one at a time. */
    private static final class Tokens {
        private static final int END = 0;
        private static final int WORD = 1;
        private static final int NUMBER = 2;
        private static final int SIGN = 3;
        private static final int UNKNOWN = 4;

        private final Tape tape = new Tape();
        private int end = 0;
        private int start = 0;
        private int size = 0;
        private int kind = END;
        private int number = 0;
        private long word = 0;

        void open(int n) {
            end = n;
            start = 0;
            size = 0;
            step();
        }

        void step() {
            start += size;
            while (start < end && isBlank(tape.signAt(start))) {
                start++;
            }
            size = 0;
            int sign = start < end ? tape.signAt(start) : NONE;
            if (start >= end) {
                kind = END;
            } else if (isLetter(sign)) {
                scanWord();
            } else if (isDigit(sign)) {
                scanNumber();
            } else {
                kind = isMark(sign) ? SIGN : UNKNOWN;
                number = sign;
                size = 1;
            }
        }

        private void scanWord() {
            kind = WORD;
            word = 0;
            for (int place = start; place < end && isLetter(tape.signAt(place)); place++) {
                if (size < MOST_LETTERS) {
                    word = Words.withLetter(word, size, tape.signAt(place) - 'a' + 1);
                }
                size++;
            }
        }

        private void scanNumber() {
            kind = NUMBER;
            number = 0;
            for (int place = start; place < end && isDigit(tape.signAt(place)); place++) {
                number = 10 * number + tape.signAt(place) - '0';
                size++;
            }
        }

        boolean isWord(String text) {
            if (kind != WORD || size != text.length()) {
                return false;
            }
            for (int i = 0; i < text.length(); i++) {
                if (tape.signAt(start + i) != text.charAt(i)) {
                    return false;
                }
            }
            return true;
        }

        boolean isSign(char sign) {
            return kind == SIGN && number == sign;
        }

        private static boolean isBlank(int sign) {
            return sign == 32 || sign == 10;
        }

        private static boolean isLetter(int sign) {
            return sign >= 'a' && sign <= 'z';
        }

        private static boolean isDigit(int sign) {
            return sign >= '0' && sign <= '9';
        }

        private static boolean isMark(int sign) {
            return sign == ';' || sign == '(' || sign == ')' || sign == '+' || sign == '-'
                    || sign == '*' || sign == '/' || sign == '<' || sign == '=';
        }
    }

    /** A word of up to eight letters as one number: five bits a letter, the first one highest, 0 behind the last. */
    private static final class Words {
        private static final int BITS = 5;
        private static final int MASK = 31;
        private static final int FIRST_SHIFT = BITS * (MOST_LETTERS - 1);

        static long withLetter(long word, int i, int letter) {
            return word | (long) letter << FIRST_SHIFT - BITS * i;
        }

        static int letterAt(long word, int i) {
            return (int) (word >>> FIRST_SHIFT - BITS * i) & MASK;
        }
    }

    /** What a text tells: cards, and clerks with their rules. */
    private static final class Catalogue {
        private static final int SKIP = 0;
        private static final int SPELL = 1;
        private static final int FOLD = 2;

        private final int[] year = new int[MOST_CARDS];
        private final int[] words = new int[MOST_CARDS];
        private final int[] letters = new int[MOST_CARDS];
        private final long[] heading = new long[MOST_CARDS * MOST_WORDS];
        private final int[] rules = new int[MOST_CLERKS];
        private final int[] ruleKind = new int[MOST_CLERKS * MOST_RULES];
        private final long[] ruleFrom = new long[MOST_CLERKS * MOST_RULES];
        private final long[] ruleTo = new long[MOST_CLERKS * MOST_RULES];
        private final boolean[] turns = new boolean[MOST_CLERKS];
        private final boolean[] joins = new boolean[MOST_CLERKS];
        private final boolean[] tied = new boolean[MOST_CLERKS];
        private final int[] tie = new int[MOST_CLERKS * MOST_CARDS];
        private int cards = 0;
        private int clerks = 0;

        void clear() {
            cards = 0;
            clerks = 0;
        }

        void addCard(int itsYear) {
            if (cards < MOST_CARDS) {
                year[cards] = itsYear;
                words[cards] = 0;
                letters[cards] = 0;
                cards++;
            }
        }

        void addWord(long word, int size) {
            int latest = cards - 1;
            if (latest >= 0 && words[latest] < MOST_WORDS) {
                heading[latest * MOST_WORDS + words[latest]] = word;
                words[latest]++;
                letters[latest] += size;
            }
        }

        void addClerk() {
            if (clerks < MOST_CLERKS) {
                rules[clerks] = 0;
                turns[clerks] = false;
                joins[clerks] = false;
                tied[clerks] = false;
                clerks++;
            }
        }

        void addRule(int kind, long from, long to) {
            int latest = clerks - 1;
            if (latest >= 0 && rules[latest] < MOST_RULES) {
                int rule = latest * MOST_RULES + rules[latest];
                ruleKind[rule] = kind;
                ruleFrom[rule] = from;
                ruleTo[rule] = to;
                rules[latest]++;
            }
        }

        /** The number among a clerk's rules of that which is of a word; no two of one kind are of the same one. */
        int ruleOf(int clerk, int kind, long from) {
            for (int i = 0; i < rules[clerk]; i++) {
                int rule = clerk * MOST_RULES + i;
                if (ruleKind[rule] == kind && ruleFrom[rule] == from) {
                    return i;
                }
            }
            return NONE;
        }
    }

    /** The ties of the clerks as steps on a stack: they can be counted only when all cards are told. */
    private static final class Ties {
        private static final int YEAR = -1;
        private static final int WORDS = -2;
        private static final int LETTERS = -3;
        private static final int CARD = -4;
        private static final int NOT = -5;
        private static final int AND = -6;
        private static final int OR = -7;
        private static final int LESS = -8;
        private static final int EQUAL = -9;
        private static final int ADD = -10;
        private static final int SUBTRACT = -11;
        private static final int MULTIPLY = -12;
        private static final int DIVIDE = -13;

        private static final int STACK = 64;

        private final int[] steps = new int[MOST_BYTES];
        private final int[] from = new int[MOST_CLERKS];
        private final int[] to = new int[MOST_CLERKS];
        private final int[] stack = new int[STACK];
        private int size = 0;
        private int height = 0;

        /** A step of 0 or more puts itself on the stack. */
        void addStep(int step) {
            if (size < MOST_BYTES) {
                steps[size] = step;
                size++;
            }
        }

        void countFor(Catalogue told) {
            for (int clerk = 0; clerk < told.clerks; clerk++) {
                for (int card = 0; card < told.cards; card++) {
                    if (told.tied[clerk]) {
                        told.tie[clerk * MOST_CARDS + card] = countOne(told, clerk, card);
                    }
                }
            }
        }

        private int countOne(Catalogue told, int clerk, int card) {
            height = 0;
            for (int i = from[clerk]; i < to[clerk] && i < MOST_BYTES; i++) {
                int step = steps[i];
                if (step >= 0) {
                    push(step);
                } else if (step >= CARD) {
                    push(valueOf(told, card, step));
                } else if (step == NOT) {
                    push(pop() == 0 ? 1 : 0);
                } else {
                    int right = pop();
                    int left = pop();
                    push(joined(step, left, right));
                }
            }
            return pop();
        }

        private void push(int number) {
            if (height < STACK) {
                stack[height] = number;
                height++;
            }
        }

        private int pop() {
            if (height == 0) {
                return 0;
            }
            height--;
            return stack[height];
        }

        private static int valueOf(Catalogue told, int card, int step) {
            switch (step) {
                case YEAR: return told.year[card];
                case WORDS: return told.words[card];
                case LETTERS: return told.letters[card];
                default: return card;
            }
        }

        private static int joined(int step, int left, int right) {
            switch (step) {
                case AND: return left != 0 && right != 0 ? 1 : 0;
                case OR: return left != 0 || right != 0 ? 1 : 0;
                case LESS: return left < right ? 1 : 0;
                case EQUAL: return left == right ? 1 : 0;
                case ADD: return left + right;
                case SUBTRACT: return left - right;
                case MULTIPLY: return left * right;
                default: return right == 0 ? 0 : left / right;
            }
        }
    }

    /**
     * Reads a text into a catalogue of its own (a text with a fault must leave all else as it is),
     * or finds its first fault. Its methods answer false behind a fault.
     */
    private static final class Parser {
        private static final int NO_FAULT = 0;
        private static final int MISPLACED = 1;
        private static final int TOO_MUCH = 2;
        private static final int NO_VALUE = 3;
        private static final int HAS_ALREADY = 4;
        private static final int SECOND = 5;

        private static final int MOST_DIGITS = 4;
        private static final int MOST_YEAR = 999;
        private static final int MOST_AROUND = 5;
        private static final int MOST_NOTS = 6;
        private static final int NO_STEP = 0;

        private final Tokens tokens = new Tokens();
        private final Ties ties = new Ties();
        private Catalogue told = new Catalogue();
        private int found = NO_FAULT;
        private int place = NONE;

        /** The catalogue that was read; the old one is written over by the next text. */
        Catalogue handOver(Catalogue old) {
            Catalogue read = told;
            told = old;
            return read;
        }

        int parse(int n) {
            told.clear();
            ties.size = 0;
            found = NO_FAULT;
            place = NONE;
            tokens.open(n);
            for (int line = 0; line < MOST_BYTES && found == NO_FAULT && tokens.kind != Tokens.END; line++) {
                if (takeLine()) {
                    endLine();
                }
            }
            if (found == NO_FAULT) {
                ties.countFor(told);
            }
            return found;
        }

        private boolean refuse(int kind) {
            found = kind;
            place = tokens.start;
            return false;
        }

        private void endLine() {
            if (tokens.isSign(';')) {
                tokens.step();
            } else {
                refuse(MISPLACED);
            }
        }

        private boolean takeLine() {
            if (tokens.isWord("card")) {
                return takeCard();
            }
            if (tokens.isWord("clerk")) {
                return takeClerk();
            }
            if (told.clerks == 0) {
                return refuse(MISPLACED);
            }
            if (tokens.isWord("skip") || tokens.isWord("spell") || tokens.isWord("fold")) {
                return takeRule();
            }
            if (tokens.isWord("turn")) {
                return takeOnce(told.turns);
            }
            if (tokens.isWord("join")) {
                return takeOnce(told.joins);
            }
            if (tokens.isWord("tie")) {
                return takeTie();
            }
            return refuse(MISPLACED);
        }

        private boolean takeCard() {
            if (told.cards == MOST_CARDS) {
                return refuse(TOO_MUCH);
            }
            tokens.step();
            if (tokens.kind != Tokens.NUMBER) {
                return refuse(MISPLACED);
            }
            if (tokens.size > MOST_DIGITS || tokens.number > MOST_YEAR) {
                return refuse(TOO_MUCH);
            }
            told.addCard(tokens.number);
            tokens.step();
            return takeHeading();
        }

        private boolean takeHeading() {
            for (int words = 0; words < MOST_WORDS && (words == 0 || tokens.kind == Tokens.WORD); words++) {
                if (!isWordUpTo(MOST_LETTERS)) {
                    return false;
                }
                told.addWord(tokens.word, tokens.size);
                tokens.step();
            }
            return tokens.kind != Tokens.WORD || refuse(TOO_MUCH);
        }

        private boolean isWordUpTo(int letters) {
            if (tokens.kind != Tokens.WORD) {
                return refuse(MISPLACED);
            }
            return tokens.size <= letters || refuse(TOO_MUCH);
        }

        private boolean takeClerk() {
            if (told.clerks == MOST_CLERKS) {
                return refuse(TOO_MUCH);
            }
            told.addClerk();
            tokens.step();
            return true;
        }

        private boolean takeRule() {
            int clerk = told.clerks - 1;
            if (clerk < 0 || told.rules[clerk] >= MOST_RULES) {
                return refuse(TOO_MUCH);
            }
            int kind = ruleKindHere();
            int letters = kind == Catalogue.FOLD ? 1 : MOST_LETTERS;
            tokens.step();
            if (!isWordUpTo(letters)) {
                return false;
            }
            long from = tokens.word;
            if (told.ruleOf(clerk, kind, from) != NONE) {
                return refuse(HAS_ALREADY);
            }
            tokens.step();
            if (kind == Catalogue.SKIP) {
                told.addRule(kind, from, from);
                return true;
            }
            if (!isWordUpTo(letters)) {
                return false;
            }
            told.addRule(kind, from, tokens.word);
            tokens.step();
            return true;
        }

        private int ruleKindHere() {
            if (tokens.isWord("skip")) {
                return Catalogue.SKIP;
            }
            return tokens.isWord("spell") ? Catalogue.SPELL : Catalogue.FOLD;
        }

        private boolean takeOnce(boolean[] ofClerks) {
            int clerk = told.clerks - 1;
            if (clerk < 0 || ofClerks[clerk]) {
                return refuse(SECOND);
            }
            ofClerks[clerk] = true;
            tokens.step();
            return true;
        }

        private boolean takeTie() {
            if (!takeOnce(told.tied)) {
                return false;
            }
            int clerk = told.clerks - 1;
            ties.from[clerk] = ties.size;
            boolean taken = takeExpression(0);
            ties.to[clerk] = ties.size;
            return taken;
        }

        private boolean takeExpression(int around) {
            if (around > MOST_AROUND) {
                return refuseTooDeep();
            }
            if (!takeAnd(around)) {
                return false;
            }
            for (int i = 0; i < MOST_BYTES && tokens.isWord("or"); i++) {
                tokens.step();
                if (!takeAnd(around)) {
                    return false;
                }
                ties.addStep(Ties.OR);
            }
            return true;
        }

        private boolean refuseTooDeep() {
            boolean mayBegin = tokens.kind == Tokens.NUMBER || tokens.kind == Tokens.WORD || tokens.isSign('(');
            return refuse(mayBegin ? TOO_MUCH : MISPLACED);
        }

        private boolean takeAnd(int around) {
            if (!takeNot(around)) {
                return false;
            }
            for (int i = 0; i < MOST_BYTES && tokens.isWord("and"); i++) {
                tokens.step();
                if (!takeNot(around)) {
                    return false;
                }
                ties.addStep(Ties.AND);
            }
            return true;
        }

        private boolean takeNot(int around) {
            int nots = 0;
            for (int i = 0; i < MOST_NOTS && tokens.isWord("not"); i++) {
                tokens.step();
                nots++;
            }
            if (nots == MOST_NOTS && tokens.isWord("not")) {
                return refuse(TOO_MUCH);
            }
            if (!takeTest(around)) {
                return false;
            }
            for (int i = 0; i < nots; i++) {
                ties.addStep(Ties.NOT);
            }
            return true;
        }

        private boolean takeTest(int around) {
            if (!takeSum(around)) {
                return false;
            }
            boolean less = tokens.isSign('<');
            if (!less && !tokens.isSign('=')) {
                return true;
            }
            tokens.step();
            if (!takeSum(around)) {
                return false;
            }
            ties.addStep(less ? Ties.LESS : Ties.EQUAL);
            return true;
        }

        private boolean takeSum(int around) {
            if (!takeProduct(around)) {
                return false;
            }
            for (int i = 0; i < MOST_BYTES && (tokens.isSign('+') || tokens.isSign('-')); i++) {
                int step = tokens.isSign('+') ? Ties.ADD : Ties.SUBTRACT;
                tokens.step();
                if (!takeProduct(around)) {
                    return false;
                }
                ties.addStep(step);
            }
            return true;
        }

        private boolean takeProduct(int around) {
            if (!takePart(around)) {
                return false;
            }
            for (int i = 0; i < MOST_BYTES && (tokens.isSign('*') || tokens.isSign('/')); i++) {
                int step = tokens.isSign('*') ? Ties.MULTIPLY : Ties.DIVIDE;
                tokens.step();
                if (!takePart(around)) {
                    return false;
                }
                ties.addStep(step);
            }
            return true;
        }

        private boolean takePart(int around) {
            if (tokens.isSign('(')) {
                tokens.step();
                if (!takeExpression(around + 1)) {
                    return false;
                }
                if (!tokens.isSign(')')) {
                    return refuse(MISPLACED);
                }
            } else if (tokens.kind == Tokens.NUMBER) {
                if (tokens.size > MOST_DIGITS) {
                    return refuse(TOO_MUCH);
                }
                ties.addStep(tokens.number);
            } else if (tokens.kind == Tokens.WORD) {
                int value = valueStep();
                if (value == NO_STEP) {
                    return refuse(NO_VALUE);
                }
                ties.addStep(value);
            } else {
                return refuse(MISPLACED);
            }
            tokens.step();
            return true;
        }

        private int valueStep() {
            if (tokens.isWord("year")) {
                return Ties.YEAR;
            }
            if (tokens.isWord("words")) {
                return Ties.WORDS;
            }
            if (tokens.isWord("letters")) {
                return Ties.LETTERS;
            }
            return tokens.isWord("number") ? Ties.CARD : NO_STEP;
        }
    }

    /** The keys and the ranks of all cards, by each clerk and by one who is otherwise. */
    private static final class Orders {
        /** The order of a clerk as he would be without a rule, or otherwise. */
        private static final int OTHERWISE = MOST_CLERKS;

        private static final int MOST_ORDERS = MOST_CLERKS + 1;
        private static final int LONGEST_KEY = MOST_WORDS * MOST_LETTERS + MOST_WORDS - 1;

        private final int[] signs = new int[MOST_ORDERS * MOST_CARDS * LONGEST_KEY];
        private final int[] sizes = new int[MOST_ORDERS * MOST_CARDS];
        private final int[] ranks = new int[MOST_ORDERS * MOST_CARDS];
        private final int[] cards = new int[MOST_ORDERS * MOST_CARDS];
        private final long[] heading = new long[MOST_WORDS];
        private final int[] folds = new int[Words.MASK + 1];
        private int dropped = NONE;
        private boolean turning = false;
        private boolean joining = false;
        private boolean tying = false;

        /** How a clerk files; it may be changed ahead of arrange. */
        void learn(Catalogue told, int clerk) {
            dropped = NONE;
            turning = told.turns[clerk];
            joining = told.joins[clerk];
            tying = told.tied[clerk];
        }

        void arrange(Catalogue told, int clerk, int order) {
            learnFolds(told, clerk);
            for (int card = 0; card < told.cards; card++) {
                readHeading(told, clerk, card);
                writeKey(told, clerk, card, order * MOST_CARDS + card);
            }
            rankAll(told, clerk, order * MOST_CARDS);
        }

        private void learnFolds(Catalogue told, int clerk) {
            for (int letter = 0; letter < folds.length; letter++) {
                folds[letter] = letter;
            }
            for (int i = 0; i < told.rules[clerk]; i++) {
                int rule = clerk * MOST_RULES + i;
                if (told.ruleKind[rule] == Catalogue.FOLD && i != dropped) {
                    folds[Words.letterAt(told.ruleFrom[rule], 0)] = Words.letterAt(told.ruleTo[rule], 0);
                }
            }
        }

        private int ruleKept(Catalogue told, int clerk, int kind, long word) {
            int rule = told.ruleOf(clerk, kind, word);
            return rule == dropped ? NONE : rule;
        }

        private void readHeading(Catalogue told, int clerk, int card) {
            for (int i = 0; i < told.words[card]; i++) {
                long word = told.heading[card * MOST_WORDS + i];
                int rule = ruleKept(told, clerk, Catalogue.SPELL, word);
                heading[i] = folded(rule == NONE ? word : told.ruleTo[clerk * MOST_RULES + rule]);
            }
        }

        private long folded(long word) {
            long folded = 0;
            for (int i = 0; i < MOST_LETTERS; i++) {
                folded = Words.withLetter(folded, i, folds[Words.letterAt(word, i)]);
            }
            return folded;
        }

        private void writeKey(Catalogue told, int clerk, int card, int slot) {
            int last = told.words[card] - 1;
            int first = 0;
            while (first < last && ruleKept(told, clerk, Catalogue.SKIP, heading[first]) != NONE) {
                first++;
            }
            sizes[slot] = 0;
            if (turning && last > first) {
                writeWord(slot, heading[last]);
                last--;
            }
            for (int i = first; i <= last; i++) {
                writeWord(slot, heading[i]);
            }
        }

        private void writeWord(int slot, long word) {
            if (sizes[slot] > 0 && !joining) {
                writeSign(slot, 0);
            }
            for (int i = 0; i < MOST_LETTERS && Words.letterAt(word, i) != 0; i++) {
                writeSign(slot, Words.letterAt(word, i));
            }
        }

        private void writeSign(int slot, int sign) {
            if (sizes[slot] < LONGEST_KEY) {
                signs[slot * LONGEST_KEY + sizes[slot]] = sign;
                sizes[slot]++;
            }
        }

        private void rankAll(Catalogue told, int clerk, int base) {
            for (int card = 0; card < told.cards; card++) {
                ranks[base + card] = 0;
            }
            for (int card = 0; card < told.cards; card++) {
                for (int other = card + 1; other < told.cards; other++) {
                    boolean ahead = goesAhead(told, clerk, base, card, other);
                    ranks[base + (ahead ? other : card)]++;
                }
            }
            for (int card = 0; card < told.cards; card++) {
                cards[base + ranks[base + card]] = card;
            }
        }

        /** Of two cards the lesser comes first here: it goes ahead, if all else is alike. */
        private boolean goesAhead(Catalogue told, int clerk, int base, int lesser, int other) {
            int compared = comparedKeys(base + lesser, base + other);
            if (compared == 0) {
                compared = Integer.compare(tieOf(told, clerk, lesser), tieOf(told, clerk, other));
            }
            return compared <= 0;
        }

        private int tieOf(Catalogue told, int clerk, int card) {
            return tying ? told.tie[clerk * MOST_CARDS + card] : told.year[card];
        }

        private int comparedKeys(int slot, int other) {
            int alike = alikeSigns(slot, other);
            if (alike < sizes[slot] && alike < sizes[other]) {
                return Integer.compare(signs[slot * LONGEST_KEY + alike], signs[other * LONGEST_KEY + alike]);
            }
            return Integer.compare(sizes[slot], sizes[other]);
        }

        private int alikeSigns(int slot, int other) {
            int both = Math.min(sizes[slot], sizes[other]);
            for (int i = 0; i < both; i++) {
                if (signs[slot * LONGEST_KEY + i] != signs[other * LONGEST_KEY + i]) {
                    return i;
                }
            }
            return both;
        }

        int keyLength(int order, int card) {
            return sizes[order * MOST_CARDS + card];
        }

        int keySign(int order, int card, int i) {
            return signs[(order * MOST_CARDS + card) * LONGEST_KEY + i];
        }

        int rankOf(int order, int card) {
            return ranks[order * MOST_CARDS + card];
        }

        int cardOfRank(int order, int rank) {
            return cards[order * MOST_CARDS + rank];
        }

        boolean isAhead(int order, int card, int other) {
            return rankOf(order, card) < rankOf(order, other);
        }

        boolean hasSameKey(int order, int another, int card) {
            return comparedKeys(order * MOST_CARDS + card, another * MOST_CARDS + card) == 0;
        }

        boolean beginsAlike(int order, int card, int other, int letters) {
            int slot = order * MOST_CARDS + card;
            return alikeSigns(slot, order * MOST_CARDS + other) >= Math.min(letters, sizes[slot]);
        }

        /** How much of a card's key goes behind the whole key of one that goes before it. */
        int guideLength(int order, int card, int ahead) {
            int slot = order * MOST_CARDS + card;
            return Math.min(sizes[slot], alikeSigns(slot, order * MOST_CARDS + ahead) + 1);
        }
    }

    /** Cards that stand one behind the other, each once. */
    private static final class Row {
        private static final int BITS = 4;
        private static final int MASK = 15;

        private final int[] cards = new int[MOST_CARDS];
        private int size = 0;

        void copy(Row other) {
            size = other.size;
            System.arraycopy(other.cards, 0, cards, 0, MOST_CARDS);
        }

        /** The whole row as one number: how many are in it, and above that the cards. */
        long packed() {
            long packed = 0;
            for (int place = size - 1; place >= 0; place--) {
                packed = packed << BITS | cards[place];
            }
            return packed << BITS | size;
        }

        void unpack(long packed) {
            size = Math.min(MOST_CARDS, (int) packed & MASK);
            for (int place = 0; place < size; place++) {
                cards[place] = (int) (packed >>> BITS * (place + 1)) & MASK;
            }
        }

        int bits() {
            int bits = 0;
            for (int place = 0; place < size; place++) {
                bits |= 1 << cards[place];
            }
            return bits;
        }

        int placeOf(int card) {
            for (int place = 0; place < size; place++) {
                if (cards[place] == card) {
                    return place;
                }
            }
            return NONE;
        }

        void insert(int place, int card) {
            if (size >= MOST_CARDS || place < 0 || place > size) {
                return;
            }
            for (int behind = size; behind > place; behind--) {
                cards[behind] = cards[behind - 1];
            }
            cards[place] = card;
            size++;
        }

        void remove(int place) {
            if (place < 0 || place >= size) {
                return;
            }
            size--;
            for (int behind = place; behind < size; behind++) {
                cards[behind] = cards[behind + 1];
            }
        }

        int placeFor(Orders orders, int clerk, int card) {
            for (int place = 0; place < size; place++) {
                if (orders.isAhead(clerk, card, cards[place])) {
                    return place;
                }
            }
            return size;
        }

        void sort(Orders orders, int clerk) {
            for (int next = 1; next < size; next++) {
                int card = cards[next];
                int place = next;
                while (place > 0 && orders.isAhead(clerk, card, cards[place - 1])) {
                    cards[place] = cards[place - 1];
                    place--;
                }
                cards[place] = card;
            }
        }

        int countAhead(Orders orders, int clerk, int card) {
            int ahead = 0;
            for (int place = 0; place < size; place++) {
                if (orders.isAhead(clerk, cards[place], card)) {
                    ahead++;
                }
            }
            return ahead;
        }

        int wrongBy(Orders orders, int clerk) {
            int couples = 0;
            for (int place = 0; place < size; place++) {
                for (int behind = place + 1; behind < size; behind++) {
                    if (orders.isAhead(clerk, cards[behind], cards[place])) {
                        couples++;
                    }
                }
            }
            return couples;
        }

        int wrongWith(Orders orders, int clerk, int card) {
            int couples = 0;
            int own = placeOf(card);
            for (int place = 0; place < size; place++) {
                if (place != own && (place < own) != orders.isAhead(clerk, cards[place], card)) {
                    couples++;
                }
            }
            return couples;
        }

        int looksFor(Orders orders, int clerk, int card) {
            return lookFor(orders, clerk, card) / 2;
        }

        boolean finds(Orders orders, int clerk, int card) {
            return lookFor(orders, clerk, card) % 2 == 1;
        }

        /** A search by halves: twice the looks, and 1 if the card is found. */
        private int lookFor(Orders orders, int clerk, int card) {
            int low = 0;
            int high = size - 1;
            int looks = 0;
            while (looks < MOST_CARDS && low <= high) {
                int middle = (low + high) / 2;
                looks++;
                if (cards[middle] == card) {
                    return 2 * looks + 1;
                }
                if (orders.isAhead(clerk, card, cards[middle])) {
                    high = middle - 1;
                } else {
                    low = middle + 1;
                }
            }
            return 2 * looks;
        }
    }

    /** The drawer as it was ahead of each act that is kept, the latest act last. */
    private static final class Acts {
        private final long[] rows = new long[MOST_ACTS];
        private int size = 0;

        void copy(Acts other) {
            size = other.size;
            System.arraycopy(other.rows, 0, rows, 0, MOST_ACTS);
        }

        void keep(long row) {
            if (size >= MOST_ACTS) {
                System.arraycopy(rows, 1, rows, 0, MOST_ACTS - 1);
                size = MOST_ACTS - 1;
            }
            rows[size] = row;
            size++;
        }

        long dropLatest() {
            if (size == 0) {
                return 0;
            }
            size--;
            return rows[size];
        }
    }

    /** The row of all cards by which the fewest are hurt. */
    private static final class Compromise {
        private final int[] hurts = new int[MOST_CARDS * MOST_CARDS];
        private final int[] fewest = new int[1 << MOST_CARDS];
        private final int[] row = new int[MOST_CARDS];
        private int hurt = 0;
        private boolean settled = false;

        /** How many are hurt, if a card stands ahead of another one. */
        void setHurt(int card, int other, int clerks) {
            hurts[card * MOST_CARDS + other] = clerks;
        }

        /** From each set of cards on, the fewest that its own couples hurt: without all rows being tried. */
        void settle(int cards) {
            int all = (1 << cards) - 1;
            fewest[0] = 0;
            for (int set = 1; set <= all; set++) {
                fewest[set] = hurtWithFirst(set, bestFirst(set, cards), cards);
            }
            hurt = fewest[all];
            int left = all;
            for (int i = 0; i < cards; i++) {
                row[i] = bestFirst(left, cards);
                left &= ~(1 << row[i]);
            }
            settled = true;
        }

        /** The least card that may stand ahead of all others of a set. */
        private int bestFirst(int set, int cards) {
            int best = 0;
            int least = Integer.MAX_VALUE;
            for (int card = 0; card < cards; card++) {
                if ((set >> card & 1) == 1) {
                    int hurt = hurtWithFirst(set, card, cards);
                    if (hurt < least) {
                        least = hurt;
                        best = card;
                    }
                }
            }
            return best;
        }

        private int hurtWithFirst(int set, int card, int cards) {
            int rest = set & ~(1 << card);
            int hurt = fewest[rest];
            for (int other = 0; other < cards; other++) {
                if ((rest >> other & 1) == 1) {
                    hurt += hurts[card * MOST_CARDS + other];
                }
            }
            return hurt;
        }
    }
}
