/** Texts and drawers that several tests use. */
final class Drawers {
    /** Ten cards with one heading and one year: what is first is up to the ties. */
    static final String TEN = "card 0 a;".repeat(10);
    static final String FORTH = "clerk;";
    static final String BACK = "clerk;tie 0-number;";

    private Drawers() {
    }

    /** Exactly this row, by two acts a card. */
    static MeerDrawers standing(String text, int... row) {
        MeerDrawers x = Check.told(text);
        for (int place = 0; place < row.length; place++) {
            x.put(row[place], 0);
            x.move(row[place], place);
        }
        return x;
    }

    static int[] upTo(int many) {
        int[] row = new int[many];
        for (int i = 0; i < many; i++) {
            row[i] = i;
        }
        return row;
    }

    /** One card that is put in and taken out, till so many acts were done. */
    static void actSoOften(MeerDrawers x, int card, int acts) {
        for (int i = 0; i < acts; i++) {
            if (i % 2 == 0) {
                x.put(card, 0);
            } else {
                x.take(card);
            }
        }
    }

    /** Numbers that name nothing, if there are so many. */
    static int[] outside(int many) {
        return new int[] {-1, -2, many, many + 1, 1000, Integer.MIN_VALUE, Integer.MAX_VALUE};
    }
}
