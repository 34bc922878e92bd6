import java.nio.charset.StandardCharsets;
import java.util.NoSuchElementException;

/** What the tests share: telling texts, comparing answers, ending with an exit code. */
final class Check {
    /** Answers that stand for an exception, far from every true answer. */
    static final long NO_SUCH = Long.MIN_VALUE;
    static final long ILLEGAL = Long.MIN_VALUE + 1;

    private static final int MOST_SHOWN = 40;

    private int wrong = 0;

    interface Call {
        long answer();
    }

    static long answerOf(Call call) {
        try {
            return call.answer();
        } catch (NoSuchElementException e) {
            return e.getClass() == NoSuchElementException.class ? NO_SUCH : NO_SUCH + 9;
        } catch (IllegalArgumentException e) {
            return e.getClass() == IllegalArgumentException.class ? ILLEGAL : NO_SUCH + 9;
        }
    }

    void due(String call, long want, Call made) {
        long got = answerOf(made);
        if (got != want) {
            wrong++;
            if (wrong <= MOST_SHOWN) {
                System.out.println(call + " answered " + shown(got) + ", due is " + shown(want));
            }
        }
    }

    void noSuch(String call, Call made) {
        due(call, NO_SUCH, made);
    }

    void illegal(String call, Call made) {
        due(call, ILLEGAL, made);
    }

    void holds(String fact, boolean holds) {
        due(fact, 1, () -> holds ? 1 : 0);
    }

    /** A text told to a new object: its fault (0: none), the place, and what else is promised then. */
    void fault(String text, int fault, int place) {
        MeerDrawers x = new MeerDrawers();
        due("catalogue of " + text, fault, () -> tell(x, text));
        due("fault() of " + text, place, x::fault);
        due("count(6) of " + text, fault == 0 ? 0 : 1, () -> x.count(6));
        due("count(5) of " + text, 0, () -> x.count(5));
        if (fault != 0) {
            due("count(0) of " + text, 0, () -> x.count(0));
            due("count(1) of " + text, 0, () -> x.count(1));
        }
    }

    /** A text whose fault stands where the sign ^ does (the sign itself is left out). */
    void marked(String text, int fault) {
        fault(text.replace("^", ""), fault, text.indexOf('^'));
    }

    void fine(String text) {
        fault(text, 0, -1);
    }

    /** What stands in the drawer, from the first place on. */
    void rowIs(String name, MeerDrawers x, int... cards) {
        due(name + ": how many", cards.length, () -> x.count(2));
        for (int i = 0; i < cards.length; i++) {
            int place = i;
            due(name + ": place " + place, cards[place], () -> x.drawer(place));
        }
    }

    private static String shown(long answer) {
        if (answer == NO_SUCH) {
            return "throws.NoSuchElementException";
        }
        return answer == ILLEGAL ? "throws.IllegalArgumentException" : Long.toString(answer);
    }

    boolean isClean() {
        return wrong == 0;
    }

    void end() {
        System.out.println(wrong == 0 ? "all answers are as due" : wrong + " answers are wrong");
        System.exit(wrong == 0 ? 0 : 1);
    }

    static void feed(MeerDrawers x, byte[] bytes) {
        int[] five = new int[5];
        for (int from = 0; from < bytes.length; from += 20) {
            for (int i = 0; i < 20; i++) {
                int sign = from + i < bytes.length ? bytes[from + i] & 255 : ' ';
                five[i / 4] = five[i / 4] << 8 | sign;
            }
            x.feed(five[0], five[1], five[2], five[3], five[4]);
        }
    }

    static int tell(MeerDrawers x, String text) {
        byte[] bytes = text.getBytes(StandardCharsets.ISO_8859_1);
        feed(x, bytes);
        return x.catalogue(bytes.length);
    }

    static MeerDrawers told(String text) {
        MeerDrawers x = new MeerDrawers();
        int fault = tell(x, text);
        if (fault != 0) {
            throw new IllegalStateException("fault " + fault + " at " + x.fault() + " of " + text);
        }
        return x;
    }
}
