import java.nio.charset.StandardCharsets;

/** The bounds that the document's terms set to a text: one below each, at it, and one beyond it. */
public final class TextBoundsTest {
    private static final Check CHECK = new Check();

    private static final String A_CARD = "card 1 a;";
    private static final String A_CLERK = "clerk;";
    private static final String[] RULES = {"skip", "spell", "fold"};

    /** The least and the greatest int, as far as numbers of four digits go. */
    private static final String MIN = "(8192*8192*32)";
    private static final String MAX = "(8192*8192*32-1)";

    private static MeerDrawers taken(String text) {
        CHECK.fine(text);
        return Check.told(text);
    }

    private static void due(String call, long want, Check.Call made) {
        CHECK.due(call, want, made);
    }

    private static void marked(String text, int fault) {
        CHECK.marked(text, fault);
    }

    private static String letters(int many) {
        return "abcdefghijklmnopqrstuvwxyz".repeat(30).substring(0, many);
    }

    /** So many rules of a kind, each of another word or letter. */
    private static String rules(String kind, int many) {
        StringBuilder text = new StringBuilder();
        for (char from = 'a'; from < 'a' + many; from++) {
            text.append(kind).append(' ').append(from).append(kind.equals("skip") ? ";" : " z;");
        }
        return text.toString();
    }

    // ---- "CARDS 0, 1 .. (at most 10)", "CLERKS 0, 1 .. (at most 4)", "RULES (at most 8 each)" ----

    private static void howManyCards() {
        for (int many = 0; many <= 10; many++) {
            int cards = many;
            MeerDrawers x = taken(A_CARD.repeat(cards) + "clerk;tie number;");
            due(cards + " cards", cards, () -> x.count(0));
            CHECK.noSuch("card " + cards, () -> x.card(cards, 0));
        }
        marked(A_CARD.repeat(10) + "^" + A_CARD, 2);
        marked(A_CARD.repeat(5) + A_CLERK + A_CARD.repeat(5) + "turn;^" + A_CARD, 2);
        marked(A_CARD.repeat(10) + "^card", 2);
        marked(A_CARD.repeat(10) + "^card card", 2);
        marked(A_CARD.repeat(9) + "card ^card", 1);
    }

    private static void howManyClerks() {
        for (int many = 0; many <= 4; many++) {
            int clerks = many;
            MeerDrawers x = taken(A_CLERK.repeat(clerks) + A_CARD);
            due(clerks + " clerks", clerks, () -> x.count(1));
            CHECK.noSuch("clerk " + clerks, () -> x.clerk(clerks, 0));
        }
        marked(A_CLERK.repeat(4) + "^clerk;", 2);
        marked(A_CLERK.repeat(4) + "^clerk", 2);
        marked(A_CLERK.repeat(2) + A_CARD.repeat(10) + A_CLERK.repeat(2) + "^clerk;", 2);
        marked(A_CLERK.repeat(3) + "clerk ^clerk;", 1);
    }

    private static void howManyRules() {
        for (String kind : RULES) {
            for (int many = 0; many <= 8; many++) {
                int rules = many;
                MeerDrawers x = taken(A_CLERK + rules(kind, rules));
                due(rules + " rules " + kind, rules, () -> x.clerk(0, 0));
            }
            for (String ninth : RULES) {
                marked(A_CLERK + rules(kind, 8) + "^" + ninth + " y z;", 2);
                marked(A_CLERK + rules(kind, 8) + "^" + ninth, 2);
                marked(A_CLERK + rules(kind, 8) + "^" + ninth + " a z;", 2);
                marked(A_CLERK + rules(kind, 7) + ninth + " y " + (ninth.equals("skip") ? "" : "z ") + ";^" + ninth, 2);
            }
        }
        MeerDrawers x = taken((A_CLERK + rules("skip", 3) + A_CARD + rules("spell", 3) + rules("fold", 2)).repeat(4));
        for (int clerk = 0; clerk < 4; clerk++) {
            int k = clerk;
            due("8 rules of clerk " + k, 8, () -> x.clerk(k, 0));
        }
        MeerDrawers y = taken(A_CLERK + rules("skip", 8) + "turn;join;tie year;");
        due("turn, join, tie are no rules", 8, () -> y.clerk(0, 0));
        due("turn behind 8 rules", 1, () -> y.clerk(0, 1));
        due("join behind 8 rules", 1, () -> y.clerk(0, 2));
        due("tie behind 8 rules", 1, () -> y.clerk(0, 3));
    }

    /** "What is told of RULES is of the CLERK told last", and a fault ahead of all. */
    private static void theClerkToldLast() {
        MeerDrawers x = taken("clerk;skip a;clerk;card 1 a;skip b;skip c;turn;clerk;card 1 b;join;clerk;tie 1;");
        int[][] want = {{1, 0, 0, 0}, {2, 1, 0, 0}, {0, 0, 1, 0}, {0, 0, 0, 1}};
        for (int clerk = 0; clerk < 4; clerk++) {
            for (int what = 0; what < 4; what++) {
                int k = clerk;
                int w = what;
                due("clerk " + k + " " + w, want[k][w], () -> x.clerk(k, w));
            }
        }
        for (String line : new String[] {"skip a;", "spell a b;", "fold a b;", "turn;", "join;", "tie 1;"}) {
            marked("^" + line, 1);
            marked(A_CARD + "^" + line + A_CLERK, 1);
            CHECK.fine(A_CLERK + line);
            CHECK.fine(A_CARD + A_CLERK + A_CARD + line);
        }
        marked("^tie ((((((1", 1);
        marked("^skip abcdefghi", 1);
    }

    // ---- "a HEADING of 1 to 4 WORDS (1 to 8 letters each), a YEAR (0 to 999)" ----

    private static void headings() {
        marked("card 1^;", 1);
        marked("card 1^", 1);
        for (int many = 1; many <= 4; many++) {
            int words = many;
            MeerDrawers x = taken("card 1" + " a".repeat(words) + ";");
            due(words + " words", words, () -> x.card(0, 1));
            due(words + " letters", words, () -> x.card(0, 2));
        }
        marked("card 1 a b c d ^e;", 2);
        marked("card 1 a b c d ^abcdefgh;", 2);
        marked("card 1 a b c d ^abcdefghi;", 2);
        marked("card 1 a b c d ^e f;", 2);
        marked("card 1 a b c d ^card", 2);
        marked("card 1 a b c d ^12345;", 1);
        marked("card 1 a b c d ^(;", 1);
    }

    private static void wordsOfHeadings() {
        String[] words = {"a", "z", letters(7), letters(8), "zzzzzzzz"};
        for (String word : words) {
            MeerDrawers x = taken("card 1 " + word + " b;clerk;");
            due("letters of " + word, word.length() + 1, () -> x.card(0, 2));
            due("the last letter of " + word, word.charAt(word.length() - 1) - 'a' + 1,
                    () -> x.key(0, 0, word.length() - 1));
            due("the blank behind " + word, 0, () -> x.key(0, 0, word.length()));
        }
        MeerDrawers most = taken("card 1" + (" " + letters(8)).repeat(4) + ";");
        due("the most letters", 32, () -> most.card(0, 2));
        for (int size : new int[] {9, 10, 26, 600}) {
            marked("card 1 ^" + letters(size) + ";", 2);
            marked("card 1 a ^" + letters(size) + ";", 2);
            marked("card 1 a b ^" + letters(size) + ";", 2);
            marked("card 1 a b c ^" + letters(size) + ";", 2);
        }
    }

    private static void wordsOfRules() {
        for (int size : new int[] {1, 7, 8}) {
            CHECK.fine("clerk;skip " + letters(size) + ";");
            CHECK.fine("clerk;spell " + letters(size) + " b;");
            CHECK.fine("clerk;spell b " + letters(size) + ";");
        }
        for (int size : new int[] {9, 10, 600}) {
            marked("clerk;skip ^" + letters(size) + ";", 2);
            marked("clerk;spell ^" + letters(size) + " b;", 2);
            marked("clerk;spell b ^" + letters(size) + ";", 2);
        }
        // A ninth letter is a fault, even if the first eight are a word that he has already.
        marked("clerk;skip " + letters(8) + ";skip ^" + letters(9) + ";", 2);
        marked("clerk;spell " + letters(8) + " b;spell ^" + letters(9) + " b;", 2);
        for (String letter : new String[] {"a", "z"}) {
            CHECK.fine("clerk;fold " + letter + " b;");
            CHECK.fine("clerk;fold b " + letter + ";");
        }
        for (int size : new int[] {2, 3, 8, 9, 600}) {
            marked("clerk;fold ^" + letters(size) + " b;", 2);
            marked("clerk;fold b ^" + letters(size) + ";", 2);
        }
        marked("clerk;fold a b;fold ^ab b;", 2);
    }

    private static void years() {
        int[] years = {0, 1, 9, 10, 99, 100, 998, 999};
        for (int year : years) {
            MeerDrawers x = taken("card " + year + " a;");
            due("year " + year, year, () -> x.card(0, 0));
        }
        for (String year : new String[] {"00", "000", "0000", "0001", "0999"}) {
            MeerDrawers x = taken("card " + year + " a;");
            due("year " + year, Integer.parseInt(year), () -> x.card(0, 0));
        }
        for (String year : new String[] {"1000", "1001", "9999", "00000", "00001", "10000", "99999", "4294967296",
            "4294967297", "18446744073709551617", "1".repeat(600)}) {
            marked("card ^" + year + " a;", 2);
            marked("card ^" + year, 2);
        }
    }

    // ---- "A TEXT of at most 700 bytes" ----

    private static void wholeTapes() {
        MeerDrawers x = new MeerDrawers();
        Check.feed(x, (" ".repeat(694) + A_CLERK).getBytes(StandardCharsets.ISO_8859_1));
        CHECK.illegal("701 bytes", () -> x.catalogue(701));
        due("700 bytes are a text", 0, () -> x.catalogue(700));
        due("its clerk", 1, () -> x.count(1));
        MeerDrawers y = new MeerDrawers();
        Check.feed(y, (" ".repeat(694) + A_CLERK).getBytes(StandardCharsets.ISO_8859_1));
        due("699 of them end too soon", 1, () -> y.catalogue(699));
        due("where they end", 699, y::fault);
        marked(" ".repeat(694) + "clerk ^", 1);
        marked(" ".repeat(699) + "^;", 1);
        marked(" ".repeat(690) + "card 5   ^", 1);
        marked("clerk;^" + letters(694), 1);
        marked("clerk;^" + "1".repeat(694), 1);
        marked("clerk;tie ^" + letters(690), 3);
        marked("clerk;tie ^" + "1".repeat(690), 2);
        CHECK.fine(" ".repeat(700));
        CHECK.fine("\n".repeat(700));
        // Nearly as many steps as a text can have: the last of them still counts.
        String full = "card 1 a;card 1 a; clerk;tie " + "1+".repeat(331) + "1-number;";
        MeerDrawers z = taken(full);
        CHECK.holds("the text has 700 bytes", full.length() == 700);
        due("the last value of 700 bytes", 0, () -> z.before(0, 0, 1) ? 1 : 0);
    }

    // ---- "TOKENS: words (a .. z, the longest row), NUMBERS, signs; blanks (32, 10)" ----

    /** Every byte behind the word 'card' and ahead of a year. */
    private static void bytesBehindAWord() {
        for (int code = 0; code < 256; code++) {
            char sign = (char) code;
            String text = "card" + sign + "5 a;";
            if (sign == ' ' || sign == '\n' || sign >= '0' && sign <= '9') {
                CHECK.fine(text);
            } else if (sign >= 'a' && sign <= 'z') {
                CHECK.fault(text, 1, 0);
            } else {
                CHECK.fault(text, 1, 4);
            }
        }
    }

    /** Every byte between two numbers of a tie. */
    private static void bytesInATie() {
        for (int code = 0; code < 256; code++) {
            char sign = (char) code;
            String text = "clerk;tie 1" + sign + "1;";
            if ("+-*/<=".indexOf(sign) >= 0 || sign >= '0' && sign <= '9') {
                CHECK.fine(text);
            } else if (sign == ' ' || sign == '\n' || sign == ';') {
                CHECK.fault(text, 1, 12);
            } else {
                CHECK.fault(text, 1, 11);
            }
        }
    }

    private static void blanksCountForNothing() {
        CHECK.fine("card5a;clerk;fold a b;tie(1)+year;");
        CHECK.fine("\n\n card \n 5\n\na\n ; clerk\n;\nfold  a \n b ;tie ( 1 ) + year ;\n ");
        marked("card 1 ^2 a;", 1);
        marked("^car d 5 a;", 1);
        marked("clerk;tie 1 ^2;", 1);
        marked("clerk;tie ^y ear;", 3);
        marked("  ^clerks;", 1);
        marked("\n\n^;", 1);
    }

    // ---- The faults ----

    /** Each place of a text where only some tokens can stand, and one token of each kind that can't. */
    private static void whatCannotStand() {
        String[] ahead = {"", "clerk;", "clerk;turn;", "card 1 a;"};
        for (String text : ahead) {
            for (String token : new String[] {";", "5", "12345", "x", letters(9), "year", "or", "(", "!", "A"}) {
                marked(text + "^" + token, 1);
            }
        }
        String[] needsWord = {"card 1 ", "clerk;skip ", "clerk;spell ", "clerk;spell a ", "clerk;fold ", "clerk;fold a "};
        for (String text : needsWord) {
            for (String token : new String[] {"", ";", "5", "12345", "(", "!", "A"}) {
                marked(text + "^" + token, 1);
            }
        }
        String[] needsEnd = {"clerk", "clerk;turn", "clerk;join", "clerk;skip a", "clerk;spell a b", "clerk;fold a b",
            "clerk;tie 1", "clerk;tie(1)"};
        for (String text : needsEnd) {
            for (String token : new String[] {"", "5", "12345", "x", letters(9), "clerk", "(", "!", "A"}) {
                marked(text + " ^" + token, 1);
            }
        }
        for (String token : new String[] {"", ";", "a", letters(9), "(", "!", "A"}) {
            marked("card ^" + token, 1);
        }
        for (String token : new String[] {"", "5", "12345", "(", "!", "A"}) {
            marked("card 1 a ^" + token, 1);
        }
    }

    private static void whatCannotStandInATie() {
        String[] needsPart = {"clerk;tie ", "clerk;tie 1 or ", "clerk;tie 1 and ", "clerk;tie not ", "clerk;tie 1<",
            "clerk;tie 1=", "clerk;tie 1+", "clerk;tie 1-", "clerk;tie 1*", "clerk;tie 1/", "clerk;tie (", "clerk;tie 1+("};
        for (String text : needsPart) {
            for (String token : new String[] {"", ";", ")", "+", "-", "*", "/", "<", "=", "!", "A"}) {
                marked(text + "^" + token, 1);
            }
            marked(text + "^12345", 2);
            marked(text + "^00000;", 2);
            for (String token : new String[] {"x", letters(9), "or", "and", "card", "tie", "years", "yea"}) {
                marked(text + "^" + token, 3);
            }
            boolean open = text.endsWith("(");
            for (String part : new String[] {"0", "9999", "0000", "year", "words", "letters", "number", "(1)"}) {
                CHECK.fine(text + part + (open ? ");" : ";"));
            }
        }
        // Behind a sign a PART must stand, and 'not' is none.
        for (String sign : new String[] {"<", "=", "+", "-", "*", "/"}) {
            marked("clerk;tie 1" + sign + "^not 1;", 3);
            CHECK.fine("clerk;tie 1" + sign + "(not 1);");
        }
        for (String test : new String[] {"<", "="}) {
            marked("clerk;tie 1<1 ^" + test + "1;", 1);
            marked("clerk;tie 1=1+1 ^" + test + "1;", 1);
            CHECK.fine("clerk;tie (1<1)" + test + "1;");
            CHECK.fine("clerk;tie 1<1 and 1" + test + "1;");
        }
        marked("clerk;tie (1^;", 1);
        marked("clerk;tie (1 ^2);", 1);
        marked("clerk;tie 1^);", 1);
        marked("clerk;tie ((1)^;", 1);
    }

    /** "an EXPR within 6 others": the seventh one, the first being the tie's own. */
    private static void howDeep() {
        for (int within = 0; within <= 5; within++) {
            for (String part : new String[] {"1", "9999", "year", "not year", "not not not not not not 1", "1 or 1"}) {
                CHECK.fine("clerk;tie " + "(".repeat(within) + part + ")".repeat(within) + ";");
                CHECK.fine("clerk;tie 1 and " + "(1 or ".repeat(within) + part + ")".repeat(within) + ";");
            }
            marked("clerk;tie " + "(".repeat(within) + "^x", 3);
            marked("clerk;tie " + "(".repeat(within) + "^12345", 2);
            marked("clerk;tie " + "(".repeat(within) + "^)", 1);
        }
        String six = "clerk;tie ((((((";
        for (String first : new String[] {"1", "12345", "year", "x", letters(9), "or", "and", "not", "card", "("}) {
            marked(six + "^" + first + "))))));", 2);
            marked(six + "^" + first, 2);
            marked("clerk;tie 1<(year and (2+((3*((^" + first, 2);
        }
        for (String first : new String[] {"", ")", ";", "+", "-", "*", "/", "<", "=", "!", "A"}) {
            marked(six + "^" + first, 1);
        }
        // What is closed again is no longer around.
        CHECK.fine("clerk;tie (((((1)))))+(((((1)))))or(((((1)))));");
        CHECK.fine("clerk;tie (((((1)+(1))+(1))+(1))+(1))+(1);");
        CHECK.fine("clerk;tie (((((1)))));clerk;tie (((((1)))));");
        marked("clerk;tie (((((1)))))+((((((^1))))));", 2);
        marked("clerk;tie (((((1)+((^1)))))));", 2);
    }

    /** "the seventh 'not' side by side" */
    private static void howManyNots() {
        for (int many = 0; many <= 6; many++) {
            String nots = "not ".repeat(many);
            MeerDrawers x = taken("card 1 a;card 1 a;clerk;tie " + nots + "number;");
            // An odd number of nots makes the second card the less one.
            int firstFirst = many % 2 == 0 ? 1 : 0;
            due(many + " nots", firstFirst, () -> x.before(0, 0, 1) ? 1 : 0);
        }
        String six = "not ".repeat(6);
        marked("clerk;tie " + six + "^not 1;", 2);
        marked("clerk;tie " + six + "^not not 1;", 2);
        marked("clerk;tie " + six + "^not", 2);
        marked("clerk;tie (((((" + six + "^not 1)))));", 2);
        marked("clerk;tie 1 or 1 and " + six + "^not 1;", 2);
        marked("clerk;tie " + six + "^x;", 3);
        marked("clerk;tie " + six + "^;", 1);
        marked("clerk;tie " + six + "^12345;", 2);
        CHECK.fine("clerk;tie " + six + "(" + six + "1);");
        CHECK.fine("clerk;tie " + six + "1 and " + six + "1 or " + six + "1;");
        CHECK.fine("clerk;tie " + six + "1;clerk;tie " + six + "1;");
    }

    /** "4 a WORD that the CLERK SKIPS, SPELLS, a LETTER that he FOLDS already" */
    private static void whatHeHasAlready() {
        for (String kind : RULES) {
            String to = kind.equals("skip") ? "" : " z";
            for (int rules = 1; rules <= 7; rules++) {
                String told = A_CLERK + rules(kind, rules);
                char latest = (char) ('a' + rules - 1);
                marked(told + kind + " ^a" + to + ";", 4);
                marked(told + kind + " ^" + latest + to + ";", 4);
                marked(told + kind + " ^" + latest, 4);
                CHECK.fine(told + kind + " " + (char) (latest + 1) + to + ";");
                CHECK.fine(told + A_CLERK + kind + " a" + to + ";");
            }
            for (String other : RULES) {
                if (!other.equals(kind)) {
                    CHECK.fine(A_CLERK + rules(kind, 1) + rules(other, 1));
                }
            }
        }
        // The word that another one is spelled as, or the letter that another one is folded as, may be there already.
        CHECK.fine("clerk;spell a b;spell c b;spell b a;fold a b;fold c b;fold b a;");
        CHECK.fine("clerk;spell a a;fold a a;spell b a;");
        marked("clerk;skip abcdefgh;skip abcdefgi;skip bbcdefgh;skip ^abcdefgh;", 4);
        CHECK.fine("clerk;skip a;skip aa;skip aaa;skip aaaaaaaa;skip aaaaaaa;");
    }

    /** "5 a second 'turn', 'join', 'tie' of a CLERK" */
    private static void seconds() {
        String[] lines = {"turn;", "join;", "tie 1;"};
        for (String line : lines) {
            String word = line.substring(0, 4).replace(" ", "");
            marked(A_CLERK + line + "^" + line, 5);
            marked(A_CLERK + line + "^" + word, 5);
            marked(A_CLERK + line + A_CARD + "skip a;^" + line, 5);
            marked(A_CLERK + A_CLERK + line + "^" + line, 5);
            CHECK.fine((A_CLERK + line).repeat(4));
            for (String other : lines) {
                if (!other.equals(line)) {
                    CHECK.fine(A_CLERK + line + other);
                }
            }
        }
        marked("clerk;tie 1;^tie;", 5);
        marked("clerk;tie 1;^tie x;", 5);
        marked("clerk;turn ^turn;", 1);
    }

    /** "the first along the text, at a TOKEN's first byte, of one TOKEN the least" */
    private static void whichFault() {
        marked("card ^1000 abcdefghi;clerk", 2);
        marked("clerk;tie ^x 12345;turn;turn;", 3);
        marked("clerk;skip a;skip ^a;turn;turn;", 4);
        marked("clerk;turn;^turn;card 1000 a;", 5);
        marked("clerk;turn;^turn 12345", 5);
        marked("clerk   ^x clerk;", 1);
        marked("card 1 a ^12345;", 1);
        marked("clerk;skip ^12345;", 1);
        marked("clerk;tie ((((((^x", 2);
        marked("clerk;tie ((((((^not not not not not not not 1", 2);
        marked("clerk;tie 1 ^x;", 1);
        marked("clerk;tie 1 ^12345;", 1);
        marked(A_CLERK + rules("skip", 8) + "^skip a;", 2);
    }

    // ---- "ints that wrap, / cut down to 0, by 0 gives 0" ----

    /** By such a tie the second card is the less one just if the expression counts what is due. */
    private static void counts(String expression, String due) {
        MeerDrawers x = taken("card 1 a;card 1 a;clerk;tie ((" + expression + ")=" + due + ")*(1-number);");
        due(expression + " counts " + due, 0, () -> x.before(0, 0, 1) ? 1 : 0);
    }

    private static void wrapAround() {
        counts(MIN + "<0", "1");
        counts("0<" + MAX, "1");
        counts(MAX + "+1", MIN);
        counts(MIN + "-1", MAX);
        counts("0-" + MIN, MIN);
        counts("0-1-" + MAX, MIN);
        counts(MIN + "*(0-1)", MIN);
        counts(MIN + "/(0-1)", MIN);
        counts(MAX + "/(0-1)", "(0-" + MAX + ")");
        counts(MIN + "+" + MIN, "0");
        counts(MIN + "*2", "0");
        counts(MAX + "*2", "(0-2)");
        counts(MAX + "*" + MAX, "1");
        counts(MAX + "+" + MAX, "(0-2)");
        // 999700029999 less 233 times 2 to the 32nd.
        counts("9999*9999*9999", "(0-(1027*1000*1000+349*1000+969))");
    }

    private static void divisions() {
        counts("7/2", "3");
        counts("(0-7)/2", "(0-3)");
        counts("7/(0-2)", "(0-3)");
        counts("(0-7)/(0-2)", "3");
        counts("(0-1)/2", "0");
        counts("1/9999", "0");
        counts("0/5", "0");
        counts("5/0", "0");
        counts("0/0", "0");
        counts("(0-5)/0", "0");
        counts(MIN + "/0", "0");
        counts("5/(1-1)*7+2", "2");
        counts("9999/1", "9999");
        counts("9998/9999", "0");
        counts("9999/9999", "1");
    }

    private static void fromTheLeft() {
        counts("10-3-2", "5");
        counts("10-3+2", "9");
        counts("100/10/5", "2");
        counts("100/10*5", "50");
        counts("7*3/2", "10");
        counts("7/2*3", "9");
        counts("2+3*4", "14");
        counts("2*3+4", "10");
        counts("20-12/4", "17");
        counts("1+2<2+2", "1");
        counts("2*2=8/2", "1");
        counts("0 and 0 or 1", "1");
        counts("1 or 0 and 0", "1");
        counts("not 1 or 1", "1");
        counts("not 0 and 0", "0");
        counts("not 1<2", "0");
        counts("not 2<1", "1");
        counts("not 0+1", "0");
        counts("not 0*5", "1");
    }

    /** "tests, not, and, or are 1 or 0 (what isn't 0 holds)" */
    private static void whatHolds() {
        for (String value : new String[] {"1", "2", "9999", "(0-1)", MIN, MAX}) {
            counts("not " + value, "0");
            counts("not not " + value, "1");
            counts(value + " and " + value, "1");
            counts(value + " or 0", "1");
            counts("0 or " + value, "1");
            counts(value + " and 0", "0");
            counts("0 and " + value, "0");
            counts(value + "=" + value, "1");
            counts(value + "<" + value, "0");
        }
        counts("not 0", "1");
        counts("0 or 0", "0");
        counts("0 and 0", "0");
        counts("0=0", "1");
        counts("1<2", "1");
        counts("2<1", "0");
        counts("1=2", "0");
        counts(MIN + "<" + MAX, "1");
        counts(MAX + "<" + MIN, "0");
        counts("(0-1)<0", "1");
        counts("0<(0-1)", "0");
    }

    /** Every level of an expression open at once, six expressions deep. */
    private static void allOpenAtOnce() {
        String inner = "1-number";
        for (int within = 0; within <= 5; within++) {
            MeerDrawers x = taken("card 1 a;card 1 a;clerk;tie " + inner + ";");
            int depth = within;
            due("all levels open, " + depth + " deep", 0, () -> x.before(0, 0, 1) ? 1 : 0);
            inner = "0 or 1 and not not 0<0+1*(" + inner + ")";
        }
    }

    private static void values() {
        // All keys are a, but values are of the heading as it is told.
        MeerDrawers x = taken("card 0 a;".repeat(9) + "card 999 abcdefgh abcdefgh abcdefgh abcdefgh;"
                + "clerk;skip a;spell abcdefgh a;tie 0-(year=999 and words=4 and letters=32 and number=9);"
                + "clerk;skip a;spell abcdefgh a;tie year=0 and words=1 and letters=1 and number=0;");
        due("the most of each", 0, () -> x.rank(0, 9));
        due("the others by number", 1, () -> x.rank(0, 0));
        due("the least of each", 9, () -> x.rank(1, 0));
        due("the others by number", 8, () -> x.rank(1, 9));
    }

    public static void main(String[] args) {
        howManyCards();
        howManyClerks();
        howManyRules();
        theClerkToldLast();
        headings();
        wordsOfHeadings();
        wordsOfRules();
        years();
        wholeTapes();
        bytesBehindAWord();
        bytesInATie();
        blanksCountForNothing();
        whatCannotStand();
        whatCannotStandInATie();
        howDeep();
        howManyNots();
        whatHeHasAlready();
        seconds();
        whichFault();
        wrapAround();
        divisions();
        fromTheLeft();
        whatHolds();
        allOpenAtOnce();
        values();
        CHECK.end();
    }
}
