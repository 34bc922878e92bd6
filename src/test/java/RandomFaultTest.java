import java.util.ArrayList;
import java.util.List;
import java.util.Random;
import java.util.regex.Matcher;
import java.util.regex.Pattern;

/** Fine texts that are spoilt at a few places: the fault and its place are held against Grammar. */
public final class RandomFaultTest {
    private static final String[] PIECES = {
        ";", "(", ")", "+", "-", "*", "/", "<", "=", "card", "clerk", "skip", "spell", "fold", "turn", "join", "tie",
        "or", "and", "not", "year", "words", "letters", "number", "a", "b", "ab", "abcdefgh", "abcdefghi", "0", "999",
        "1000", "9999", "12345", "!", "A", "\t", "\n", "((((((", "(((((", "not not not not not not", "card 5 a;",
        "clerk;", "skip a;", "spell a b;", "fold a b;", "turn;", "join;", "tie 1;", "skip b;", "fold c b;", "clerk;tie",
        "(((((1)))))", "((((((1))))))", "not not not not not not not 1", "\u00e9", "skip c;skip d;skip e;skip f;",
    };
    private static final Pattern PIECE = Pattern.compile("[a-z]+|[0-9]+|\\s+|.", Pattern.DOTALL);

    private static String spoilt(String text, Random random) {
        List<String> pieces = new ArrayList<>();
        Matcher matcher = PIECE.matcher(text);
        while (matcher.find()) {
            pieces.add(matcher.group());
        }
        int changes = random.nextInt(4);
        for (int i = 0; i < changes; i++) {
            int at = random.nextInt(pieces.size() + 1);
            String piece = " " + PIECES[random.nextInt(PIECES.length)] + " ";
            int how = random.nextInt(4);
            if (how == 0 || at == pieces.size()) {
                pieces.add(at, piece);
            } else if (how == 1) {
                pieces.remove(at);
            } else if (how == 2) {
                pieces.set(at, piece);
            } else {
                pieces.add(at, pieces.get(random.nextInt(pieces.size())));
            }
        }
        String spoilt = String.join("", pieces);
        return spoilt.length() > 700 ? spoilt.substring(0, 700) : spoilt;
    }

    private static String soup(Random random) {
        StringBuilder text = new StringBuilder(random.nextBoolean() ? "clerk;" : "clerk;tie ");
        int many = random.nextInt(12);
        for (int i = 0; i < many; i++) {
            text.append(PIECES[random.nextInt(PIECES.length)]).append(' ');
        }
        return text.toString();
    }

    public static void main(String[] args) {
        Check check = new Check();
        int[] seen = new int[6];
        for (int seed = 1; seed <= 30000; seed++) {
            RandomTexts texts = new RandomTexts(seed);
            String text = seed % 3 == 0 ? soup(texts.random) : spoilt(texts.tell(new Model(), 10, 4), texts.random);
            Grammar grammar = new Grammar(text);
            MeerDrawers x = new MeerDrawers();
            check.due("catalogue of " + text, grammar.fault, () -> Check.tell(x, text));
            check.due("fault() of " + text, grammar.place, x::fault);
            seen[grammar.fault]++;
        }
        for (int fault = 0; fault < seen.length; fault++) {
            int times = seen[fault];
            check.due("fault " + fault + " was seen", 1, () -> times > 20 ? 1 : 0);
        }
        check.end();
    }
}
