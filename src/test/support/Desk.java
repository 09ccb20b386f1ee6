import java.util.function.Supplier;
import java.util.function.ToIntFunction;

/** What the tests share: how an answer is compared, how a city is typed, and what all of an object can be asked. */
abstract class Desk {
    static final int BAD = -1, NOT = -2, FULL = -3, NONE = -4, NULL = -11, CAST = -12, INDEX = -13, SIZE = -14;
    static final int LOW = Integer.MIN_VALUE, HIGH = Integer.MAX_VALUE;

    private static String subject = "";
    private static int wrong = 0;

    static void begin(String what) {
        subject = what;
    }

    static void due(long got, long want) {
        if (got != want) {
            tell("answered " + got + ", due is " + want);
        }
    }

    static void due(String got, String want) {
        if (!got.equals(want)) {
            tell("\n   is " + got + "\n  due " + want);
        }
    }

    static void holds(boolean so, String what) {
        if (!so) {
            tell("it does not hold that " + what);
        }
    }

    private static void tell(String what) {
        wrong++;
        StackWalker.getInstance().walk(frames -> frames.filter(f -> !f.getClassName().equals("Desk")).findFirst())
                .ifPresent(f -> System.out.println(subject + " (line " + f.getLineNumber() + "): " + what));
    }

    /** The last words of a test: it fails if one answer was not as due. */
    static void end(String well) {
        System.out.println(wrong == 0 ? well : wrong + " answers are not as due");
        if (wrong != 0) {
            System.exit(1);
        }
    }

    static void type(BlindBuff x, String text) {
        for (int i = 0; i < text.length(); i++) {
            x.type(text.charAt(i));
        }
    }

    static int typed(BlindBuff x, String text) {
        type(x, text);
        return x.city();
    }

    static BlindBuff of(String text) {
        BlindBuff x = new BlindBuff();
        holds(typed(x, text) > 0, text + " is a city");
        return x;
    }

    /** Everything that can be asked of the city itself, as one text. */
    static String all(BlindBuff x) {
        StringBuilder b = new StringBuilder();
        for (int what = 0; what <= 9; what++) {
            b.append(x.count(what)).append(' ');
        }
        int people = x.count(2);
        for (int p = 0; p < people; p++) {
            for (int what = 0; what <= 8; what++) {
                b.append(x.of(p, what)).append(' ');
            }
        }
        int draw = x.seed(0);
        x.seed(draw);
        return b.append(draw).toString();
    }

    static void same(BlindBuff x, String was) {
        due(all(x), was);
    }

    /** All that an object holds, as its later answers show it: the object is used up. */
    static String used(BlindBuff x) {
        StringBuilder b = new StringBuilder("now ").append(all(x));
        int people = x.count(2);
        for (int s = 0; s < 4; s++) {
            b.append(" | sheet ").append(sheet(x, s));
        }
        b.append(" | undone");
        for (int left = x.undo(); left >= 0; left = x.undo()) {
            b.append(" / ").append(left);
            for (int what = 3; what <= 7; what++) {
                b.append(' ').append(x.count(what));
            }
            for (int p = 0; p < people; p++) {
                b.append(' ').append(x.of(p, 1));
            }
            b.append(' ').append(x.seed(0));
        }
        b.append(" | image ").append(x.restore()).append(' ').append(all(x));
        // what is on the tape is read as far as it goes, be it a city or not
        b.append(" | tape ").append(x.type('9')).append(' ').append(x.city()).append(' ').append(all(x));
        return b.toString();
    }

    private static String sheet(BlindBuff x, int s) {
        StringBuilder b = new StringBuilder();
        for (int lane = 0; lane < 4; lane++) {
            int first = x.seen(s, lane, 0, 1, 1);
            b.append(first).append(' ');
            for (int i = 1; first != NULL && first != CAST && first != INDEX && i < 24; i++) {
                first = x.seen(s, lane, i, 1, 1);
                b.append(first).append(' ');
            }
        }
        return b.append(x.drop(s)).toString();
    }

    /** The call is refused so, also when it comes again, and leaves everything as it is without it. */
    static void refused(int want, Supplier<BlindBuff> made, ToIntFunction<BlindBuff> call) {
        BlindBuff x = made.get();
        due(call.applyAsInt(x), want);
        due(call.applyAsInt(x), want);
        due(used(x), used(made.get()));
    }
}
