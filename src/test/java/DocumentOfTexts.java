/** The first part of the document's terms: the text, its tokens and its faults. */
final class DocumentOfTexts {
    private static final String EIGHT = "skip a;skip b;skip c;skip d;skip e;skip f;skip g;skip h;";

    private DocumentOfTexts() {
    }

    static void read(Sentences doc) {
        whatIsTold(doc);
        tokens(doc);
        lines(doc);
        expressions(doc);
        values(doc);
        faultsOfTokens(doc);
        tooMuch(doc);
        tooMuchOfAll(doc);
        otherFaults(doc);
    }

    private static void whatIsTold(Sentences doc) {
        doc.says("CARDS 0, 1 .. (at most 10): a HEADING of 1 to 4 WORDS (1 to 8 letters each), a YEAR (0 to 999).");
        MeerDrawers cards = Check.told("card 0 a;card 999 ab abc abcd abcdefgh;" + "card 7 b;".repeat(8));
        doc.due("ten cards", 10, () -> cards.count(0));
        int[][] want = {{0, 1, 1}, {999, 4, 17}, {7, 1, 1}};
        for (int card = 0; card < 3; card++) {
            for (int what = 0; what < 3; what++) {
                int c = card;
                int w = what;
                doc.due("card " + c + " " + w, want[c][w], () -> cards.card(c, w));
            }
        }
        doc.says("CLERKS 0, 1 .. (at most 4): RULES (at most 8 each): SKIP a WORD, SPELL a WORD as another one, FOLD a "
                + "letter as another one; TURN or not; JOIN or not; a TIE.");
        MeerDrawers clerks = Check.told("clerk;clerk;skip a;spell a b;fold a b;clerk;turn;join;tie 1;clerk;" + EIGHT);
        doc.due("four clerks", 4, () -> clerks.count(1));
        clerksAre(doc, clerks, new int[][] {{0, 0, 0, 0}, {3, 0, 0, 0}, {0, 1, 1, 1}, {8, 0, 0, 0}});
        doc.says("What is told of RULES is of the CLERK told last.");
        clerksAre(doc, Check.told("clerk;skip a;clerk;turn;card 1 b;skip b;fold c d;clerk;tie 1;card 1 b;join;"),
                new int[][] {{1, 0, 0, 0}, {2, 1, 0, 0}, {0, 0, 1, 1}});
        doc.says("A TEXT of at most 700 bytes tells it.");
        doc.fine("clerk;" + "\n".repeat(688) + "clerk;");
        doc.fault(1, "clerk;" + " ".repeat(689) + "clerk^");
    }

    private static void clerksAre(Sentences doc, MeerDrawers x, int[][] want) {
        for (int clerk = 0; clerk < want.length; clerk++) {
            for (int what = 0; what < 4; what++) {
                int k = clerk;
                int w = what;
                doc.due("clerk " + k + " " + w, want[k][w], () -> x.clerk(k, w));
            }
        }
    }

    private static void tokens(Sentences doc) {
        doc.says("TOKENS: words (a .. z, the longest row), NUMBERS (1 to 4 digits), signs ; ( ) + - * / < = ; blanks "
                + "(32, 10) between them count for nothing.");
        doc.fine("card12ab;card 0012 ab\n;\n\n clerk;fold a b;tie((1+2)-3*4/5)<6;");
        doc.fine("clerk;tie 1=2;clerk;tie 1<2;");
        MeerDrawers x = Check.told("card7sea;card 7 sea;clerk;");
        doc.due("blanks or none, the same card", 3, () -> x.key(0, 0, -1));
        doc.due("the same year", 7, () -> x.card(0, 0));
        doc.fault(1, "^car d 7 sea;", "card 7 ^Sea;", "card 7 se^!;", "card 7^\tsea;", "card 7^\r sea;",
                "card 7 sea^,", "card 7 sea^{;", "card 7 sea^`;", "card 7 sea^" + (char) 0 + ";", "clerk;tie 1 ^> 2;",
                "clerk;tie 1^:", "card^.7 sea;", "card 7 ^" + (char) 233 + ";");
    }

    private static void lines(Sentences doc) {
        doc.says("In quotes is what stands there, [ ] perhaps, * any number of times, | one of some. CATALOGUE: LINE*.");
        doc.fine("");
        doc.fine("clerk;");
        doc.fine("clerk;card 1 a;clerk;card 2 b;turn;join;");
        doc.fault(1, "^line;", "clerk;^[clerk;]", "clerk;^'card' 1 a;");
        doc.says("LINE: ('card' YEAR WORD WORD* | 'clerk' | 'skip' WORD | 'spell' WORD WORD | 'fold' LETTER LETTER | "
                + "'turn' | 'join' | 'tie' EXPR) ';', all in capitals but EXPR being words but YEAR, a NUMBER; a LETTER is "
                + "a word of one letter.");
        doc.fine("card 5 a;card 5 card clerk skip tie;clerk;skip turn;spell join tie;fold a z;turn;join;tie 1;");
        doc.fault(1, "card ^a 5;", "card 5 ^5;", "card 5 a ^5;", "clerk ^a;", "clerk;skip ^5;", "clerk;skip a ^b;",
                "clerk;spell a ^;", "clerk;spell a b ^c;", "clerk;fold a ^;", "clerk;fold ^5 a;", "clerk;fold a b ^c;",
                "clerk;turn ^a;", "clerk;join ^1;", "clerk;tie ^;", "clerk;tie 1 ^2;", "clerk;^;", "card 5 a^");
    }

    /** The second of two cards is the less one just if the expression counts what is due. */
    private static void counts(Sentences doc, String expression, int due) {
        String number = due < 0 ? "(0-" + -due + ")" : String.valueOf(due);
        MeerDrawers x = Check.told("card 1 a;card 1 a;clerk;tie (" + expression + ")=" + number + " and not number;");
        doc.due(expression + " counts " + due, 1, () -> x.before(0, 1, 0) ? 1 : 0);
    }

    private static void expressions(Sentences doc) {
        doc.says("EXPR: AND ('or' AND)*. AND: NOT ('and' NOT)*.");
        counts(doc, "1 or 1 and 0", 1);
        counts(doc, "0 and 1 or 1", 1);
        counts(doc, "(1 or 1) and 0", 0);
        counts(doc, "0 or 0 or 1 or 0", 1);
        counts(doc, "1 and 1 and 0 and 1", 0);
        doc.says("NOT: 'not' NOT | SUM [('<' | '=') SUM].");
        counts(doc, "not 2<1", 1);
        counts(doc, "not not not 0", 1);
        counts(doc, "1+1=4/2", 1);
        counts(doc, "1+1<2*1", 0);
        doc.fault(1, "clerk;tie 1<2^<3;", "clerk;tie 1=2^=3;");
        doc.says("SUM: PRODUCT (('+' | '-') PRODUCT)*. PRODUCT: PART (('*' | '/') PART)*.");
        counts(doc, "2+3*4-10/5", 12);
        counts(doc, "2*3+4*5", 26);
        doc.says("PART: NUMBER | VALUE | '(' EXPR ')'.");
        counts(doc, "(2+3)*(4-(1 or 0))", 15);
        counts(doc, "year*1000", 1000);
        counts(doc, "((((7))))", 7);
        doc.fault(1, "clerk;tie (1^;", "clerk;tie ^-1;", "clerk;tie (^);", "clerk;tie 1^(2);");
        doc.says("From the left; ints that wrap, / cut down to 0, by 0 gives 0;");
        counts(doc, "20-5-3", 12);
        counts(doc, "80/4/2", 10);
        counts(doc, "80/4*2", 40);
        counts(doc, "(0-7)/2", -3);
        counts(doc, "7/(0-2)", -3);
        counts(doc, "7/0", 0);
        counts(doc, "8/(2-2)+5", 5);
        counts(doc, "8192*8192*32+8192*8192*32", 0);
        counts(doc, "8192*8192*64+9", 9);
        counts(doc, "8192*8192*32-1+8192*8192*32", -1);
        doc.says("tests, not, and, or are 1 or 0 (what isn't 0 holds).");
        counts(doc, "(5<7)+(7=7)+(not 0)", 3);
        counts(doc, "(5 and 7)+(5 or 0)+(0 or (0-3))", 3);
        counts(doc, "(7<5)+(5=7)+(not 5)+(5 and 0)+(0 or 0)", 0);
    }

    private static void values(Sentences doc) {
        doc.says("VALUES of a CARD: 'year', 'words' (of its HEADING), 'letters' (of it, all together), 'number' (of the "
                + "CARD).");
        // All keys are one letter, the last word's: what is passed over still counts for words and letters.
        String cards = "card 9 a;card 4 bbb a;card 6 bb bb a;";
        String clerk = "clerk;skip bbb;skip bb;tie ";
        MeerDrawers x = Check.told(cards + clerk + "year;" + clerk + "0-words;" + clerk + "0-letters;" + clerk + "0-number;");
        doc.order(x, 0, 1, 2, 0);
        doc.order(x, 1, 2, 1, 0);
        doc.order(x, 2, 2, 1, 0);
        doc.order(x, 3, 2, 1, 0);
        MeerDrawers y = Check.told(cards + clerk + "letters=4;" + clerk + "words=2;" + clerk + "0-(number=1);");
        doc.order(y, 0, 0, 2, 1);
        doc.order(y, 1, 0, 2, 1);
        doc.order(y, 2, 1, 0, 2);
    }

    private static void faultsOfTokens(Sentences doc) {
        doc.says("FAULTS, the first along the text, at a TOKEN's first byte, of one TOKEN the least:");
        doc.fault(1, "clerk;skip   ^7 a;card 1000 a;clerk;turn;turn;");
        doc.fault(2, "clerk;spell a  ^abcdefghi;card x;", "clerk;tie ((((((^rank", "clerk;" + EIGHT + "^skip a;");
        doc.fault(5, "clerk;turn;\n^turn 12345");
        doc.says("1 a TOKEN that can't stand there, or is none (the text's length where it ends too soon; what is told of "
                + "RULES ahead of all CLERKS);");
        doc.fault(1, "^)", "clerk;^clerks;", "card 5 a^?", "card^", "clerk;tie 1 +   ^", "^skip a;clerk;", "^spell a b;",
                "card 1 a;^fold a b;", "^turn;", "^join;", "^tie 1;", "clerk;tie 1 ^12345;", "card 5 a ^12345;");
    }

    private static void tooMuch(Sentences doc) {
        doc.says("2 one that can, but is too much: a NUMBER of 5 digits or more,");
        doc.fine("card 0999 a;clerk;tie 9999;");
        doc.fault(2, "card ^00001 a;", "clerk;tie ^00001;", "clerk;tie 1+(2*^123456789012345);");
        doc.says("or (not in an EXPR) a YEAR above 999, a WORD of 9 letters or more, a LETTER of two or more, the fifth "
                + "WORD of a HEADING,");
        doc.fine("card 999 abcdefgh a a abcdefgh;clerk;skip abcdefgh;spell abcdefgh hgfedcba;fold a b;tie 1000;");
        doc.fault(2, "card ^1000 a;", "card 5 ^abcdefghi;", "card 5 a b c ^abcdefghi;", "clerk;skip ^abcdefghi;",
                "clerk;spell ^abcdefghi a;", "clerk;spell a ^abcdefghi;", "clerk;fold ^aa b;", "clerk;fold a ^bb;",
                "card 5 a b c d ^e;");
        doc.fault(3, "clerk;tie ^abcdefghi;");
    }

    private static void tooMuchOfAll(Sentences doc) {
        doc.says("the first TOKEN of the 11th CARD, the 5th CLERK, the 9th RULE of a CLERK,");
        doc.fault(2, "card 5 a;".repeat(10) + "^card", "clerk;card 5 a;clerk;clerk;clerk;^clerk;", "clerk;" + EIGHT + "^skip",
                "clerk;" + EIGHT + "turn;^spell a b;", "clerk;clerk;" + EIGHT + "^fold a b;");
        doc.fine("clerk;" + EIGHT + "clerk;" + EIGHT + "turn;join;tie 1;");
        doc.says("of an EXPR within 6 others (a NUMBER, any word, a parenthesis),");
        doc.fine("clerk;tie (((((1)))))+(((((year)))));");
        doc.fault(2, "clerk;tie ((((((^1))))));", "clerk;tie ((((((^year", "clerk;tie ((((((^and", "clerk;tie ((((((^not 1",
                "clerk;tie ((((((^(", "clerk;tie 1+(1 or(not(2*(3-((^4))))));", "clerk;tie ((((((^12345");
        doc.fault(1, "clerk;tie ((((((^;", "clerk;tie ((((((^-", "clerk;tie ((((((^", "clerk;tie ((((((^)");
        doc.says("the seventh 'not' side by side;");
        doc.fine("clerk;tie not not not not not not 1 and not not not not not not(not 1);");
        doc.fault(2, "clerk;tie not not not not not not ^not 1;", "clerk;tie 1 or (not not not not not not\n^not");
    }

    private static void otherFaults(Sentences doc) {
        doc.says("3 any word where a PART must stand that is no VALUE;");
        doc.fault(3, "clerk;tie ^rank;", "clerk;tie 1+^years;", "clerk;tie not ^and;", "clerk;tie 1<^not 1;", "clerk;tie (^or",
                "clerk;tie 2*^tie", "clerk;tie 1 or ^a;");
        doc.fault(1, "clerk;tie 1 ^rank;");
        doc.says("4 a WORD that the CLERK SKIPS, SPELLS (the first one of a SPELL), a LETTER that he FOLDS (the first one) "
                + "already;");
        doc.fault(4, "clerk;skip a;skip b;skip ^a;", "clerk;spell a b;spell ^a c;", "clerk;fold a b;fold ^a b;",
                "clerk;spell a b;spell b c;spell ^b a;", "clerk;clerk;skip the;turn;skip ^the");
        doc.fine("clerk;skip a;clerk;skip a;");
        doc.fine("clerk;spell a b;spell c b;spell b a;fold a b;fold c b;fold b a;");
        doc.says("5 a second 'turn', 'join', 'tie' of a CLERK.");
        doc.fault(5, "clerk;turn;^turn;", "clerk;join;card 1 a;^join;", "clerk;tie 1;skip a;^tie 2;", "clerk;clerk;turn;^turn");
        doc.fine("clerk;turn;join;tie 1;clerk;tie 1;join;turn;");
    }
}
