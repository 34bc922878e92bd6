/** Texts with their faults (promises 3 and 4): each limit of the document, just within it and just beyond. */
public final class FaultTest {
    private static final Check CHECK = new Check();

    private static void marked(String text, int fault) {
        CHECK.marked(text, fault);
    }

    private static void fine(String text) {
        CHECK.fine(text);
    }

    private static void tokens() {
        fine("");
        fine("  \n \n");
        fine("clerk;\n clerk ;  ");
        fine("card 5 a ; card5a;card\n7\nb\n;");
        fine("card 0 a;card 999 a;card 0999 a;card 0000 a;");
        marked("^;", 1);
        marked("clerk;^;", 1);
        marked("clerk^", 1);
        marked("clerk   ^", 1);
        marked("clerk ^clerk;", 1);
        marked("^clerks;", 1);
        marked("^cler;", 1);
        marked("^xlerk;", 1);
        marked("^bard 5 a;", 1);
        marked("^Clerk;", 1);
        marked("clerk^!;", 1);
        marked("clerk;^\t", 1);
        marked("clerk;^\r\n", 1);
        marked("clerk;^" + (char) 0, 1);
        marked("clerk;^" + (char) 233, 1);
        marked("clerk;^5", 1);
        marked("clerk;^12345", 1);
        marked("^abcdefghijk;", 1);
        marked("^(", 1);
    }

    private static void cards() {
        fine("card 5 a b c d;");
        fine("card 5 abcdefgh card clerk tie;");
        marked("card^", 1);
        marked("card ^;", 1);
        marked("card ^a;", 1);
        marked("card ^1000 a;", 2);
        marked("card ^9999 a;", 2);
        marked("card ^00005 a;", 2);
        marked("card 5 ^;", 1);
        marked("card 5^", 1);
        marked("card 5 ^7 a;", 1);
        marked("card 5 ^12345 a;", 1);
        marked("card 5 a ^12345;", 1);
        marked("card 5 a^", 1);
        marked("card 5 a^-;", 1);
        marked("card 5 ^abcdefghi;", 2);
        marked("card 5 a ^abcdefghi;", 2);
        marked("card 5 a b c d ^e;", 2);
        marked("card 5 a b c d ^abcdefghi;", 2);
        marked("card 5 a b c d ^5;", 1);
        marked("card 5 a b c d^", 1);
        fine("card 1 a;".repeat(10));
        marked("card 1 a;".repeat(10) + "^card 5 a;", 2);
        marked("card 1 a;".repeat(10) + "^card", 2);
        marked("card 1 a;".repeat(10) + "^cards", 1);
    }

    private static void clerks() {
        fine("clerk;clerk;clerk;clerk;");
        marked("clerk;clerk;clerk;clerk;^clerk;", 2);
        marked("^skip a;clerk;", 1);
        marked("^spell a b;", 1);
        marked("^fold a b;", 1);
        marked("^turn;", 1);
        marked("^join;", 1);
        marked("^tie 1;", 1);
        fine("clerk;skip abcdefgh;spell abcdefgh abcdefgh;fold a a;turn;join;tie 1;");
        marked("clerk;skip ^;", 1);
        marked("clerk;skip ^5;", 1);
        marked("clerk;skip ^12345;", 1);
        marked("clerk;skip a ^b;", 1);
        marked("clerk;skip ^abcdefghi;", 2);
        marked("clerk;spell ^abcdefghi b;", 2);
        marked("clerk;spell b ^abcdefghi;", 2);
        marked("clerk;spell b^;", 1);
        marked("clerk;spell b c ^d;", 1);
        marked("clerk;fold ^ab c;", 2);
        marked("clerk;fold ^abcdefghij c;", 2);
        marked("clerk;fold a ^bc;", 2);
        marked("clerk;fold a^;", 1);
        marked("clerk;fold ^5 a;", 1);
        marked("clerk;turn ^turn;", 1);
    }

    private static void rules() {
        StringBuilder eight = new StringBuilder("clerk;");
        for (char letter = 'a'; letter < 'i'; letter++) {
            eight.append("skip ").append(letter).append(';');
        }
        fine(eight + "turn;join;tie 1;clerk;skip a;");
        marked(eight + "^skip i;", 2);
        marked(eight + "^skip a;", 2);
        marked(eight + "^spell a b;", 2);
        marked(eight + "^fold", 2);
        marked(eight + "clerk;skip a;skip ^a;", 4);
        marked("clerk;skip a;skip ^a;", 4);
        marked("clerk;spell a b;spell ^a c;", 4);
        marked("clerk;fold a b;fold ^a c;", 4);
        fine("clerk;skip a;spell a b;fold a b;clerk;skip a;spell a b;fold a b;");
        fine("clerk;spell a b;spell b a;fold a b;fold b a;fold c b;");
        fine("clerk;spell a a;fold a a;");
        marked("clerk;turn;^turn;", 5);
        marked("clerk;join;^join;", 5);
        marked("clerk;tie 1;^tie 1;", 5);
        marked("clerk;tie 1;^tie rank;", 5);
        fine("clerk;turn;join;tie 1;clerk;turn;join;tie 1;");
    }

    private static void expressions() {
        fine("clerk;tie 9999;");
        fine("clerk;tie year+words-letters*number/2<3=0;".replace("<3=0", "<3"));
        fine("clerk;tie not not not not not not 1;");
        fine("clerk;tie not not not(not not not not 1);");
        fine("clerk;tie not 1 and not 1 or not 1<2;");
        fine("clerk;tie (((((1)))))+(((((year)))));");
        marked("clerk;tie^;", 1);
        marked("clerk;tie^", 1);
        marked("clerk;tie ^12345;", 2);
        marked("clerk;tie 1 ^12345;", 1);
        marked("clerk;tie 1 ^2;", 1);
        marked("clerk;tie 1 ^year;", 1);
        marked("clerk;tie 1 ^rank;", 1);
        marked("clerk;tie 1 ^not 2;", 1);
        marked("clerk;tie ^rank;", 3);
        marked("clerk;tie ^abcdefghij;", 3);
        marked("clerk;tie ^or 1;", 3);
        marked("clerk;tie ^tie;", 3);
        marked("clerk;tie 1 or ^and 2;", 3);
        marked("clerk;tie 1 + ^not 2;", 3);
        marked("clerk;tie 1 < ^not 2;", 3);
        marked("clerk;tie not ^and;", 3);
        marked("clerk;tie 1 < 2 ^< 3;", 1);
        marked("clerk;tie 1 = 2 ^< 3;", 1);
        marked("clerk;tie 1 + ^+ 3;", 1);
        marked("clerk;tie ^- 3;", 1);
        marked("clerk;tie 1+^;", 1);
        marked("clerk;tie (1^;", 1);
        marked("clerk;tie (^);", 1);
        marked("clerk;tie 1^);", 1);
        marked("clerk;tie (1)^(2);", 1);
        marked("clerk;tie (1)^^;".replace("^^", "^!"), 1);
        marked("clerk;tie not not not not not not ^not 1;", 2);
        marked("clerk;tie 1 and not not not not not not ^not 1;", 2);
        marked("clerk;tie not not not not not not ^rank;", 3);
        marked("clerk;tie ((((((^1))))));", 2);
        marked("clerk;tie ((((((^12345;", 2);
        marked("clerk;tie ((((((^year;", 2);
        marked("clerk;tie ((((((^rank;", 2);
        marked("clerk;tie ((((((^or;", 2);
        marked("clerk;tie ((((((^not 1;", 2);
        marked("clerk;tie ((((((^(1;", 2);
        marked("clerk;tie ((((((^);", 1);
        marked("clerk;tie ((((((^;", 1);
        marked("clerk;tie ((((((^", 1);
        marked("clerk;tie ((((((^+", 1);
        marked("clerk;tie (((((1+(^1))))));", 2);
        marked("clerk;tie (((((^rank)))));", 3);
    }

    public static void main(String[] args) {
        tokens();
        cards();
        clerks();
        rules();
        expressions();
        CHECK.end();
    }
}
