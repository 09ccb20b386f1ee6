import java.math.BigInteger;
import java.util.Arrays;

/**
 * All that stands ahead of promise 1, sentence by sentence, by ordinary cases.
 * What is foretold is compared with what then happens, on another object: so neither needs a model.
 */
public final class TermsTest extends Edges {
    private static final String[] CITIES = {
        "4x5@00;p349a,s108b,b222ab,h317c,l032,p239ef",
        "6x6@23;h559abc,s057,b501bf,l330ab",
        "2x6@05;p003a,p018a,h129",
        "5x3@41;l002,b420cd,s218d,p109cdef,h019a",
        "3x3@11;p112,p003b,s229b",
        "6x2@50;p009abcdef,s317abcde,p515f,b211,h414e,l002bd",
        "2x2@00;p000a,p000a,p119c",
        "6x6@00;p051,s301,h552"};

    /** What is answered of all people, one by one. */
    private static int[] each(BlindBuff x, int what) {
        int[] answers = new int[x.count(2)];
        for (int p = 0; p < answers.length; p++) {
            answers[p] = x.of(p, what);
        }
        return answers;
    }

    /** As whom one is NAMED who is of such a LOOK and DISGUISE: counted FEATURE by FEATURE. */
    private static int felt(int[] looks, int look, int disguise) {
        int who = NONE;
        int fewest = 7;
        for (int p = 0; p < looks.length; p++) {
            int otherwise = 0;
            for (int f = 0; f < 6; f++) {
                boolean isTurned = (disguise >> f & 1) == 1;
                boolean feels = (look >> f & 1) == 1 != isTurned;
                otherwise += feels == ((looks[p] >> f & 1) == 1) ? 0 : 1;
            }
            if (otherwise < fewest) {
                fewest = otherwise;
                who = p;
            }
        }
        return who;
    }

    /** Whom he follows of those who are FREE and not quiet. */
    private static int loudest(int[] loud, int caught, int quiet) {
        int who = NONE;
        for (int p = loud.length - 1; p >= 0; p--) {
            boolean isHeard = loud[p] > 0 && ((caught | quiet) >> p & 1) == 0;
            if (isHeard && (who == NONE || loud[p] >= loud[who])) {
                who = p;
            }
        }
        return who;
    }

    // ---- what it is

    @Sentence(promise = 0, words =
            "Blind man's buff police: in this lenient city a constable is hoodwinked and let go, and whoever "
            + "he catches is the guilty one, if he can say who it is by feeling, so crime is soft shoes and a "
            + "face is a record; streets of cells, people of kinds by how loud they are, faces by features, "
            + "disguises; minute by minute, walked, let go, by draws of walks, undone; whom he follows, catches "
            + "when, names as whom; where one had better stand, how much quieter one must be, the fewest "
            + "features to alter; who is alike; from which cells he would catch one first, from which he came, "
            + "by where he was; the odds, if some hold their breath; cities as texts; images; sheets that may be "
            + "missing.")
    static void theWholeStory() {
        // a loud one with a record (ab), and one in soft shoes (abc), beside the constable
        BlindBuff x = of("2x5@00;p049ab,s014abc");
        due(x.count(8), 0);
        due(x.next(0), 1);
        due(x.next(1), 1);
        due(x.next(2), 1);
        // it had better stand elsewhere; or be disguised: not NAMED RIGHT with c altered
        due(x.stand(1, 0), 0);
        due(x.stand(1, 1), 61);
        due(x.hush(1, 1), NONE);
        due(x.mask(1, 0), 1);
        due(x.mask(1, 1), 4);
        due(x.alike(1, 0), 1);
        due(x.alike(1, 1), 1);
        due(x.luck(0, 5, 0), 1);
        due(x.luck(1, 5, 1), 4);
        // from 0; from 5, up to 0; from 6, up to it at once
        due(x.turned(1, 0), 3);
        due(x.turned(1, 1), 0);
        due(x.image(), 1);
        due(x.drop(0), NULL);
        due(x.sheet(0, 0, 4), 4);
        due(x.film(4, 0, 0, 0), 4);
        due(x.seen(0, 0, 0, 4, 0), 2);
        due(x.seen(0, 0, 0, 4, 1), 0);
        due(x.rule(1, 1, 4), 0);
        due(x.minutes(1), 2);
        due(x.count(7), 1);
        due(x.free(1), 0);
        due(x.walk(1, 1), 6);
        due(x.minutes(3), 1);
        due(x.count(6), 1);
        due(x.drift(1), 1);
        due(x.undo(), 6);
        due(x.restore(), 1);
        due(x.count(4), 0);
        due(x.of(1, 4), 0);
    }

    @Sentence(promise = 0, words =
            "An object is used for at most 512 calls after it has been made; what later calls answer is free.")
    static void theSameForFiveHundredAndTwelveCalls() {
        BlindBuff x = new BlindBuff();
        for (int round = 0; round < 64; round++) {
            due(x.streets(2, 3), 6);
            due(x.person(0, 2, 9, 5), 0);
            due(x.next(1), 2);
            due(x.minutes(2), 1);
            due(x.free(0), 0);
            due(x.walk(0, 2), 1);
            due(x.undo(), 3);
            due(x.count(5), 0);
        }
    }

    // ---- terms: answers

    @Sentence(promise = 0, words =
            "Answers below 0, of several the first that a call names: BAD -1 (a number is not as told, there "
            + "is no such thing), NOT -2 (as told), FULL -3, NONE -4 (as told), CAST -12 (of SHEETS another "
            + "LANE); what the machine finds: NULL -11, INDEX -13, SIZE -14 (NULL, CAST, INDEX, SIZE in this "
            + "order).")
    static void theAnswersBelowZero() {
        int[] named = {BlindBuff.BAD, BlindBuff.NOT, BlindBuff.FULL, BlindBuff.NONE, BlindBuff.CAST, BlindBuff.NULL,
            BlindBuff.INDEX, BlindBuff.SIZE};
        int[] numbers = {-1, -2, -3, -4, -12, -11, -13, -14};
        for (int i = 0; i < named.length; i++) {
            due(named[i], numbers[i]);
        }
        BlindBuff x = of("2x2@00;p000,p110,p110,p110,p110,p110");
        due(x.count(10), -1);
        due(x.of(6, 0), -1);
        due(x.free(0), -2);
        due(x.person(0, 0, 0, 0), -3);
        due(x.restore(), -4);
        due(x.item(0, 0, 0, 0), -11);
        x.sheet(0, 0, 1);
        due(x.item(0, 1, 0, 0), -12);
        due(x.item(0, 0, 1, 0), -13);
        due(x.sheet(0, 0, -1), -14);
    }

    @Sentence(promise = 0, words = "What is refused changes nothing, but as told.")
    static void aRefusalOfEachCall() {
        BlindBuff x = busy();
        int refusals = 0;
        int[] answers = {x.streets(1, 4), x.person(0, 20, 1, 1), x.of(5, 0), x.rule(0, 0, 10), x.type(127), x.count(-1),
            x.minutes(0), x.walk(0, 0), x.free(1), x.drift(41), x.seed(-1), x.ahead(61, 0), x.next(3), x.stand(0, 0),
            x.hush(1, 0), x.mask(1, 2), x.alike(7, 0), x.turned(1, -1), x.luck(1, 11, 0), x.seen(0, 2, 3, 1, 0),
            x.film(4, 0, 2, 0), x.sheet(0, 0, -1), x.drop(3), x.item(0, 3, 0, 9), x.copy(0, 0, 1, 0, 1)};
        for (int answer : answers) {
            refusals += answer < 0 ? 1 : 0;
        }
        due(refusals, answers.length);
        due(used(x), used(busy()));
    }

    @Sentence(promise = 0, words = "Sets are bits.")
    static void setsAreBits() {
        BlindBuff x = of("2x3@00;p000bd,p010,p000cf");
        due(x.of(0, 3), 2 + 8);
        due(x.of(2, 3), 4 + 32);
        due(x.minutes(2), 1 + 4);
        due(x.ahead(0, 1), 1 + 4);
    }

    @Sentence(promise = 0, words = "What is divided is cut.")
    static void whatIsDividedIsCut() {
        BlindBuff x = of("2x2@00;s007,s006,s005");
        due(x.of(0, 7), 3);
        due(x.of(1, 7), 3);
        due(x.of(2, 7), 2);
    }

    // ---- terms: 1 the city

    @Sentence(promise = 0, words =
            "THE CITY has ROWS, COLUMNS (2 .. 6 each; 4 and 5 at first) of CELLS, numbered along ROWS from 0 "
            + "on.")
    static void cellsAlongRows() {
        BlindBuff x = new BlindBuff();
        due(x.count(0), 4);
        due(x.count(1), 5);
        for (int rows = 2; rows <= 6; rows++) {
            for (int columns = 2; columns <= 6; columns++) {
                due(x.streets(rows, columns), rows * columns);
                // from the last CELL but one ROW and one COLUMN
                due(x.person(0, rows * columns - columns - 2, 0, 0), 0);
                due(x.of(0, 6), rows - 2 + columns - 2);
                due(x.walk(0, 3), rows * columns - columns - 1);
                due(x.walk(0, 1), rows * columns - 1);
                due(x.of(0, 6), rows - 1 + columns - 1);
            }
        }
    }

    @Sentence(promise = 0, words = "THE CONSTABLE is on CELL 0 at first.")
    static void heIsOnCellZero() {
        BlindBuff x = new BlindBuff();
        due(x.count(3), 0);
        x.person(0, 0, 0, 0);
        due(x.of(0, 6), 0);
        due(x.minutes(1), 1);
    }

    @Sentence(promise = 0, words = "PEOPLE 0 .. 5, as they come, are of a KIND, on a CELL, of NOISE 0 .. 9;")
    static void peopleAsTheyCome() {
        BlindBuff x = new BlindBuff();
        for (int p = 0; p < 6; p++) {
            due(x.person((p + 2) % 5, 3 * p + 1, 9 - p, 0), p);
            due(x.count(2), p + 1);
        }
        for (int p = 0; p < 6; p++) {
            due(x.of(p, 0), (p + 2) % 5);
            due(x.of(p, 1), 3 * p + 1);
            due(x.of(p, 2), 9 - p);
        }
    }

    @Sentence(promise = 0, words =
            "a LOOK is a set of FEATURES 0 .. 5, so is a DISGUISE (none at first): it FEELS as LOOK, but those "
            + "of the DISGUISE the other way round.")
    static void whatADisguiseTurnsRound() {
        // others who LOOK as each set that 0 may FEEL as
        BlindBuff x = of("2x2@00;p000abc,p000ab,p000abcd,p000d,p000abcdef");
        due(x.of(0, 4), 0);
        due(x.of(0, 8), 0);
        due(x.rule(0, 1, 4), 0);
        due(x.of(0, 8), 1);
        due(x.rule(0, 1, 8), 4);
        due(x.of(0, 8), 2);
        due(x.rule(0, 1, 15), 8);
        due(x.of(0, 8), 3);
        due(x.rule(0, 1, 56), 15);
        due(x.of(0, 8), 4);
        due(x.of(0, 3), 7);
        due(x.of(0, 4), 56);
    }

    @Sentence(promise = 0, words = "Each is FREE (at first) or CAUGHT. It is MINUTE 0 at first; RIGHT, WRONG are 0.")
    static void freeAtMinuteZero() {
        BlindBuff x = new BlindBuff();
        for (int what = 4; what <= 7; what++) {
            due(x.count(what), 0);
        }
        x.person(0, 0, 0, 0);
        x.person(0, 0, 0, 1);
        due(x.of(0, 5), 0);
        due(x.of(1, 5), 0);
        x.minutes(1);
        due(x.of(0, 5), 1);
        due(x.of(1, 5), 0);
    }

    @Sentence(promise = 0, words = "FAR are two CELLS by as many ROWS and COLUMNS as are between them, added.")
    static void howFar() {
        for (int he = 0; he < 12; he++) {
            BlindBuff x = of("3x4@" + he / 4 + he % 4 + ";p000");
            // along all CELLS, to and fro
            for (int step = 0; step < 12; step++) {
                int cell = x.of(0, 1);
                due(x.of(0, 6), Math.abs(cell / 4 - he / 4) + Math.abs(cell % 4 - he % 4));
                int row = cell / 4;
                int way = row % 2 == 0 ? 3 : 2;
                if (x.walk(0, way) == NOT) {
                    x.walk(0, 1);
                }
            }
        }
    }

    // ---- terms: how loud

    /** How LOUD a city's people are at a MINUTE, each by its KIND, as the document has it from KIND to KIND. */
    private static void louds(BlindBuff x) {
        boolean even = x.count(4) % 2 == 0;
        int[] kinds = each(x, 0);
        int[] noises = each(x, 2);
        int[] fars = each(x, 6);
        int[] louds = each(x, 7);
        for (int p = 0; p < kinds.length; p++) {
            int plain = noises[p] > fars[p] ? noises[p] - fars[p] : 0;
            int[] byKind = {plain, plain / 2, plain + 4, even ? 0 : plain / 2, (plain + 4) * (fars[p] <= 2 ? 2 : 1)};
            due(louds[p], byKind[kinds[p]]);
        }
    }

    @Sentence(promise = 0, words =
            "How LOUD one is to THE CONSTABLE, by KIND: 0 PLAIN: NOISE less how FAR it is (0 at least). Below "
            + "it 1 SOFT: half as LOUD (cut). 2 BELLED (below PLAIN): 4 more. 3 BREATHLESS (below SOFT): not at "
            + "all in MINUTES of an even number (0, too). 4 LAUGHER (below BELLED): twice as LOUD, if it is FAR "
            + "by 2 or less.")
    static void howLoud() {
        for (String text : CITIES) {
            BlindBuff x = of(text);
            for (int minute = 0; minute < 4; minute++) {
                louds(x);
                x.minutes(1);
            }
        }
        // FAR by 3, of NOISE 8, of each KIND: MINUTE 0, and MINUTE 1, in which nobody has come nearer
        BlindBuff x = of("2x5@00;p128,s128,b128,h128,l128,l118");
        int[] even = {5, 2, 9, 0, 9, 20};
        for (int p = 0; p < 6; p++) {
            due(x.of(p, 7), even[p]);
        }
        BlindBuff y = of("2x5@00;h128");
        due(y.minutes(1), 0);
        due(y.count(3), 0);
        due(y.of(0, 7), 2);
    }

    // ---- terms: a minute

    @Sentence(promise = 0, words =
            "A MINUTE: THE CONSTABLE follows whoever of those who are FREE is LOUDEST, above 0, of like ones "
            + "the first: 1 ROW nearer; if it is the same ROW, 1 COLUMN nearer; nobody: he stays.")
    static void whomHeFollowsAndWhither() {
        for (String text : CITIES) {
            BlindBuff x = of(text);
            int columns = x.count(1);
            for (int minute = 0; minute < 9; minute++) {
                int who = loudest(each(x, 7), x.count(5), 0);
                due(x.count(8), who);
                int row = x.count(3) / columns;
                int column = x.count(3) % columns;
                int place = who == NONE ? x.count(3) : x.of(who, 1);
                if (place / columns != row) {
                    row += place / columns > row ? 1 : -1;
                } else {
                    column += Integer.signum(place % columns - column);
                }
                x.minutes(1);
                due(x.count(3), row * columns + column);
            }
        }
    }

    @Sentence(promise = 0, words =
            "Then the first of those who are FREE and on his CELL is CAUGHT, and NAMED: as the one of all "
            + "PEOPLE whose LOOK is otherwise than what he FEELS by fewest FEATURES, of like ones the first; "
            + "RIGHT is 1 more, if it is the one, else WRONG is. It is the next MINUTE.")
    static void whomHeCatchesAndAsWhom() {
        int right = 0;
        int wrong = 0;
        for (String text : CITIES) {
            BlindBuff x = of(text);
            x.rule(0, 1, 20);
            x.rule(2, 1, 3);
            int[] cells = each(x, 1);
            int[] looks = each(x, 3);
            int[] disguises = each(x, 4);
            int[] was = {0, 0, 0};
            for (int minute = 1; minute <= 20; minute++) {
                x.minutes(1);
                int he = x.count(3);
                int who = NONE;
                for (int p = cells.length - 1; p >= 0; p--) {
                    who = (was[0] >> p & 1) == 0 && cells[p] == he ? p : who;
                }
                if (who != NONE) {
                    was[0] |= 1 << who;
                    was[felt(looks, looks[who], disguises[who]) == who ? 1 : 2]++;
                }
                for (int i = 0; i < 3; i++) {
                    due(x.count(5 + i), was[i]);
                }
                due(x.count(4), minute);
            }
            right += was[1];
            wrong += was[2];
        }
        holds(right > 3 && wrong > 3, "some were NAMED RIGHT, some WRONG: " + right + ", " + wrong);
    }

    @Sentence(promise = 0, words = "WALKED: one who is FREE goes to a CELL that is FAR by 1.")
    static void walkedToEachSide() {
        // he stands where it starts: how FAR it is tells how far it went
        BlindBuff x = of("5x5@22;p220");
        int[] there = {7, 17, 11, 13};
        int[] back = {1, 0, 3, 2};
        for (int way = 0; way < 4; way++) {
            due(x.walk(0, way), there[way]);
            due(x.of(0, 1), there[way]);
            due(x.of(0, 6), 1);
            due(x.walk(0, back[way]), 12);
        }
        x.minutes(1);
        for (int way = 0; way < 4; way++) {
            due(x.walk(0, way), NOT);
        }
    }

    @Sentence(promise = 0, words = "LET GO: one who is CAUGHT is FREE.")
    static void letGo() {
        BlindBuff x = of("2x3@00;p000,p000");
        due(x.minutes(2), 3);
        due(x.free(0), 2);
        due(x.of(0, 5), 0);
        due(x.of(1, 5), 1);
        due(x.walk(0, 3), 1);
        due(x.walk(1, 3), NOT);
        x.rule(0, 0, 9);
        due(x.count(8), 0);
        due(x.minutes(1), 3);
    }

    // ---- terms: 2 foretold

    @Sentence(promise = 0, words =
            "FORETOLD from now (nothing is changed): behind n MINUTES (0 .. 60) where THE CONSTABLE is; who is "
            + "CAUGHT (a set); RIGHT; WRONG.")
    static void whatIsForetoldHappens() {
        for (String text : CITIES) {
            BlindBuff told = of(text);
            BlindBuff done = of(text);
            String was = all(told);
            for (int n = 0; n <= 60; n++) {
                due(told.ahead(n, 0), done.count(3));
                due(told.ahead(n, 1), done.count(5));
                due(told.ahead(n, 2), done.count(6));
                due(told.ahead(n, 3), done.count(7));
                done.minutes(1);
            }
            same(told, was);
        }
    }

    /** Who is CAUGHT next, behind how many MINUTES, as whom: by doing it, so that the object is used up. */
    private static int[] done(BlindBuff x) {
        int was = x.count(5);
        int right = x.count(6);
        for (int n = 1; n <= 60; n++) {
            int now = x.minutes(1);
            if (now != was) {
                int who = Integer.numberOfTrailingZeros(now & ~was);
                int whom = felt(each(x, 3), x.of(who, 3), x.of(who, 4));
                due(x.count(6) - right, whom == who ? 1 : 0);
                return new int[] {who, n, whom};
            }
        }
        return new int[] {NONE, NONE, NONE};
    }

    @Sentence(promise = 0, words =
            "NEXT: who is CAUGHT next in the next 60 MINUTES; behind how many; as whom NAMED; none.")
    static void whoIsNext() {
        int none = 0;
        for (String text : CITIES) {
            BlindBuff told = of(text);
            for (int round = 0; round < 7; round++) {
                BlindBuff twin = of(text);
                passTo(twin, told.count(4));
                int[] next = done(twin);
                for (int what = 0; what < 3; what++) {
                    due(told.next(what), next[what]);
                }
                none += next[0] == NONE ? 1 : 0;
                told.minutes(next[0] == NONE ? 1 : next[1]);
            }
        }
        holds(none > 0, "nobody was next in some city");
    }

    /** The text of a city with somebody on another CELL: he (person -1) or one of the people. */
    private static String moved(String text, int person, int cell) {
        int columns = text.charAt(2) - '0';
        int at = text.indexOf('@') + 1;
        if (person >= 0) {
            at = text.indexOf(';') + 2;
            for (int p = 0; p < person; p++) {
                at = text.indexOf(',', at) + 2;
            }
        }
        return text.substring(0, at) + cell / columns + cell % columns + text.substring(at + 2);
    }

    private static int cellsOf(String text) {
        return (text.charAt(0) - '0') * (text.charAt(2) - '0');
    }

    /** Behind how many of n MINUTES this one is CAUGHT, by doing them; 61 if in none: the object is used up. */
    private static int caughtBehind(BlindBuff x, int person, int n) {
        for (int m = 1; m <= n; m++) {
            if ((x.minutes(1) >> person & 1) == 1) {
                return m;
            }
        }
        return 61;
    }

    @Sentence(promise = 0, words =
            "STAND for one who is FREE: the CELL on which it should be now so that it is CAUGHT latest in the "
            + "next 60 MINUTES (never: 61), of like ones the first; behind how many.")
    static void whereToStand() {
        int never = 0;
        for (String text : CITIES) {
            BlindBuff told = of(text);
            for (int p = 0; p < told.count(2); p++) {
                int best = NONE;
                int latest = 0;
                for (int cell = 0; cell < cellsOf(text); cell++) {
                    int behind = caughtBehind(of(moved(text, p, cell)), p, 60);
                    if (behind > latest) {
                        latest = behind;
                        best = cell;
                    }
                }
                due(told.stand(p, 0), best);
                due(told.stand(p, 1), latest);
                never += latest == 61 ? 1 : 0;
            }
        }
        holds(never > 3, "some are never CAUGHT where they had better stand: " + never);
    }

    @Sentence(promise = 0, words =
            "HUSH for one who is FREE, n MINUTES (1 .. 60): by how much less NOISE at least (0 to all) it is "
            + "not CAUGHT in them; none.")
    static void howMuchQuieter() {
        int[] spans = {1, 2, 5, 9, 40, 60};
        int some = 0;
        int none = 0;
        for (String text : CITIES) {
            BlindBuff told = of(text);
            for (int p = 0; p < told.count(2); p++) {
                int noise = told.of(p, 2);
                for (int n : spans) {
                    int least = NONE;
                    for (int less = noise; less >= 0; less--) {
                        BlindBuff x = of(text);
                        x.rule(p, 0, noise - less);
                        least = caughtBehind(x, p, n) == 61 ? less : least;
                    }
                    due(told.hush(p, n), least);
                    some += least > 0 ? 1 : 0;
                    none += least == NONE ? 1 : 0;
                }
            }
        }
        holds(some > 3 && none > 3, "some can be quieter, some can't: " + some + ", " + none);
    }

    @Sentence(promise = 0, words =
            "MASK: the fewest FEATURES by which the DISGUISE of one should be otherwise so that it would not "
            + "be NAMED RIGHT, were it CAUGHT, of like ones the least set of these: how many; which; none.")
    static void whatToMask() {
        for (String text : CITIES) {
            for (int p = 0; p < of(text).count(2); p++) {
                BlindBuff told = of(text);
                BlindBuff tried = of(text);
                int disguise = 5 * p;
                told.rule(p, 1, disguise);
                int many = NONE;
                int which = NONE;
                for (int fewest = 0; fewest <= 6 && which == NONE; fewest++) {
                    for (int set = 0; set < 64 && which == NONE; set++) {
                        if (Integer.bitCount(set) == fewest) {
                            tried.rule(p, 1, disguise ^ set);
                            if (tried.of(p, 8) != p) {
                                many = fewest;
                                which = set;
                            }
                        }
                    }
                }
                due(told.mask(p, 0), many);
                due(told.mask(p, 1), which);
            }
        }
    }

    @Sentence(promise = 0, words =
            "ALIKE by k (0 .. 6): pairs (i below j) whose LOOKS are otherwise by k FEATURES at most: how many; "
            + "the first (10 i and j); none.")
    static void whoIsAlike() {
        for (String text : CITIES) {
            BlindBuff x = of(text);
            for (int k = 0; k <= 6; k++) {
                int many = 0;
                int first = NONE;
                for (int j = x.count(2) - 1; j >= 0; j--) {
                    for (int i = j - 1; i >= 0; i--) {
                        if (Integer.bitCount(x.of(i, 3) ^ x.of(j, 3)) <= k) {
                            many++;
                            first = first == NONE ? 10 * i + j : Math.min(first, 10 * i + j);
                        }
                    }
                }
                due(x.alike(k, 0), many);
                due(x.alike(k, 1), first);
            }
        }
    }

    @Sentence(promise = 0, words =
            "TURNED for one: the CELLS on which THE CONSTABLE might be now so that this one is CAUGHT NEXT: "
            + "how many; the first; none.")
    static void fromWhereHeIsTurned() {
        for (String text : CITIES) {
            BlindBuff told = of(text);
            int people = told.count(2);
            int[] many = new int[people];
            int[] first = new int[people];
            for (int cell = cellsOf(text) - 1; cell >= 0; cell--) {
                int who = done(of(moved(text, -1, cell)))[0];
                if (who != NONE) {
                    many[who]++;
                    first[who] = cell;
                }
            }
            for (int p = 0; p < people; p++) {
                due(told.turned(p, 0), many[p]);
                due(told.turned(p, 1), many[p] == 0 ? NONE : first[p]);
            }
        }
    }

    @Sentence(promise = 0, words =
            "LUCK by c of 10 (0 .. 10): each who is FREE holds its breath (is not LOUD) in this MINUTE by c of "
            + "10, apart: how likely he follows a told one: a fraction in lowest terms.")
    static void theOdds() {
        for (String text : CITIES) {
            BlindBuff x = of(text);
            x.minutes(3);
            int[] loud = each(x, 7);
            int caught = x.count(5);
            for (int c = 0; c <= 10; c++) {
                // in parts of 10 to the number of people; one who is CAUGHT does not matter
                long[] likely = new long[loud.length];
                long whole = 0;
                for (int quiet = 0; quiet < 1 << loud.length; quiet++) {
                    long weight = 1;
                    for (int p = 0; p < loud.length; p++) {
                        weight *= (quiet >> p & 1) == 1 ? c : 10 - c;
                    }
                    whole += weight;
                    int who = loudest(loud, caught, quiet);
                    if (who != NONE) {
                        likely[who] += weight;
                    }
                }
                for (int p = 0; p < loud.length; p++) {
                    int above = x.luck(p, c, 0);
                    int below = x.luck(p, c, 1);
                    due(above * whole, likely[p] * below);
                    due(BigInteger.valueOf(above).gcd(BigInteger.valueOf(below)).intValue(), 1);
                }
            }
        }
    }

    // ---- terms: 3 seen, undone, drift, texts

    @Sentence(promise = 0, words =
            "SEEN: a row tells where THE CONSTABLE is behind each of the next n MINUTES (1 .. 8): the CELLS on "
            + "which he might be now so that it would be so: how many; the first; none.")
    static void whereHeCameFrom() {
        int several = 0;
        for (String text : CITIES) {
            int cells = cellsOf(text);
            int[][] films = new int[cells][8];
            for (int cell = 0; cell < cells; cell++) {
                BlindBuff x = of(moved(text, -1, cell));
                for (int m = 0; m < 8; m++) {
                    x.minutes(1);
                    films[cell][m] = x.count(3);
                }
            }
            for (int n = 1; n <= 8; n++) {
                BlindBuff told = of(text);
                told.sheet(1, 0, 10);
                for (int cell = 0; cell < cells; cell += 4) {
                    int many = 0;
                    int first = NONE;
                    for (int other = cells - 1; other >= 0; other--) {
                        if (Arrays.equals(films[other], 0, n, films[cell], 0, n)) {
                            many++;
                            first = other;
                        }
                    }
                    for (int m = 0; m < n; m++) {
                        told.item(1, 0, 2 + m, films[cell][m]);
                    }
                    due(told.seen(1, 0, 2, n, 0), many);
                    due(told.seen(1, 0, 2, n, 1), first);
                    several += many > 1 ? 1 : 0;
                }
                // on no CELL of any city
                told.item(1, 0, 1 + n, 36);
                due(told.seen(1, 0, 2, n, 0), 0);
                due(told.seen(1, 0, 2, n, 1), NONE);
            }
        }
        holds(several > 3, "some rows tell of several CELLS: " + several);
    }

    /** One step that may be UNDONE, if it can be done: a MINUTE, one of a DRIFT, a walk, or somebody LET GO. */
    private static boolean step(BlindBuff x, int number) {
        int person = number % x.count(2);
        switch (number % 5) {
            case 0: return x.walk(person, number / 5 % 4) >= 0;
            case 1: return x.drift(1) >= 0;
            case 2: return x.free(person) >= 0;
            default: return x.minutes(1) >= 0;
        }
    }

    @Sentence(promise = 0, words =
            "UNDONE: the latest MINUTE, WALKED, LET GO is as it had not been (8 are known, older ones lost): "
            + "where all are, who is CAUGHT, RIGHT, WRONG, the MINUTE, THE DRAW are as ahead of it, whatever was "
            + "told since; a CITY, STREETS, a new PERSON leave nothing to be UNDONE.")
    static void whatIsUndone() {
        for (String text : CITIES) {
            for (int begin = 0; begin < 20; begin += 7) {
                BlindBuff x = of(text);
                x.minutes(begin + 1);
                String[] ahead = new String[8];
                int known = 0;
                for (int number = begin; known < 8; number++) {
                    BlindBuff twin = of(text);
                    twin.minutes(begin + 1);
                    for (int n = begin; n < number; n++) {
                        step(twin, n);
                    }
                    String was = standing(twin);
                    if (step(x, number)) {
                        ahead[known] = was;
                        known++;
                    }
                }
                x.rule(0, 0, 3);
                x.seed(4711);
                for (int left = 7; left >= 0; left--) {
                    due(x.undo(), left);
                    due(standing(x), ahead[left]);
                }
                due(x.undo(), NONE);
                due(x.of(0, 2), 3);
            }
        }
        BlindBuff x = of("2x2@00;p000");
        due(x.minutes(9), 1);
        due(x.count(9), 8);
        due(x.person(1, 2, 3, 4), 1);
        due(x.undo(), NONE);
        due(x.minutes(3), 3);
        due(x.count(9), 3);
        due(typed(x, "2x3@00;p000"), 1);
        due(x.undo(), NONE);
        due(x.minutes(1), 1);
        due(x.count(9), 1);
        due(x.streets(3, 3), 9);
        due(x.undo(), NONE);
    }

    /** What an UNDONE step puts back. */
    private static String standing(BlindBuff x) {
        int draw = x.seed(0);
        x.seed(draw);
        return Arrays.toString(each(x, 1)) + x.count(3) + " " + x.count(4) + " " + x.count(5) + " " + x.count(6) + " "
                + x.count(7) + " " + draw;
    }

    @Sentence(promise = 0, words =
            "DRIFT by a seed: THE DRAW is a number of 31 bits (1 at first); ahead of each MINUTE of a DRIFT it "
            + "becomes the lowest 31 bits of itself times 1103515245 and 12345 more: the PERSON that is it by "
            + "65536, left over by how many there are, if FREE, goes 1 CELL on: up, down, to the left, to the "
            + "right (0 .. 3) by it by 128, left over by 4, if there is such a CELL.")
    static void aDriftIsWalksAndMinutes() {
        BlindBuff first = new BlindBuff();
        due(first.seed(0), 1);
        int went = 0;
        for (String text : CITIES) {
            BigInteger draw = BigInteger.valueOf(text.hashCode() & 0x7fffffff);
            BlindBuff drifts = of(text);
            BlindBuff walks = of(text);
            int people = walks.count(2);
            drifts.seed(draw.intValueExact());
            for (int minute = 0; minute < 20; minute++) {
                draw = draw.multiply(BigInteger.valueOf(1103515245)).add(BigInteger.valueOf(12345));
                draw = draw.mod(BigInteger.ONE.shiftLeft(31));
                int person = draw.shiftRight(16).mod(BigInteger.valueOf(people)).intValue();
                // refused for one who is CAUGHT, and where there is no such CELL: then nobody goes
                went += walks.walk(person, draw.shiftRight(7).intValue() & 3) >= 0 ? 1 : 0;
                walks.seed(draw.intValueExact());
                due(drifts.drift(1), walks.minutes(1));
                due(standing(drifts), standing(walks));
            }
        }
        holds(went > 20, "somebody went on now and then: " + went);
    }

    /** The text of a city as it is answered. */
    private static String written(BlindBuff x) {
        int columns = x.count(1);
        StringBuilder b = new StringBuilder().append(x.count(0)).append('x').append(columns);
        b.append('@').append(x.count(3) / columns).append(x.count(3) % columns);
        for (int p = 0; p < x.count(2); p++) {
            int cell = x.of(p, 1);
            b.append(p == 0 ? ';' : ',').append("psbhl".charAt(x.of(p, 0)));
            b.append(cell / columns).append(cell % columns).append(x.of(p, 2));
            for (int f = 0; f < 6; f++) {
                b.append((x.of(p, 3) >> f & 1) == 1 ? "abcdef".substring(f, f + 1) : "");
            }
        }
        return b.toString();
    }

    @Sentence(promise = 0, words =
            "A CITY is a TEXT: a digit 2 .. 6 (ROWS), x, a digit 2 .. 6 (COLUMNS), then @ and two digits (THE "
            + "CONSTABLE's ROW, COLUMN, as there are); then ; and 1 to 6 PEOPLE with , between: p s b h l (KINDS "
            + "in this order), two digits (ROW, COLUMN), a digit (NOISE), then any of a .. f, rising (FEATURES 0 "
            + ".. 5 of the LOOK): in place of all STREETS, PEOPLE; MINUTE, RIGHT, WRONG 0 (THE DRAW stays).")
    static void aCityIsAText() {
        BlindBuff x = new BlindBuff();
        int draw = 1;
        for (String text : CITIES) {
            type(x, text);
            due(x.city(), text.split(",").length);
            due(written(x), text);
            for (int what : new int[] {4, 5, 6, 7, 9}) {
                due(x.count(what), 0);
            }
            due(x.seed(draw + 5), draw);
            draw += 5;
            BlindBuff y = of(text);
            y.rule(0, 1, 9);
            y.minutes(9);
            due(typed(y, text), text.split(",").length);
            y.seed(draw);
            x = new BlindBuff();
            x.seed(draw);
            typed(x, text);
            same(x, all(y));
        }
    }

    @Sentence(promise = 0, words =
            "FAULTS: -20 less the place of the first letter (behind blanks) that can't stand there (the end: "
            + "how many there are); blanks count for nothing.")
    static void whereTheFaultIs() {
        for (String text : CITIES) {
            String all = all(of(text));
            for (int at = 0; at < text.length(); at++) {
                BlindBuff x = new BlindBuff();
                due(typed(x, text.substring(0, at) + "!" + text.substring(at + 1)), -20 - at);
                due(typed(x, text.substring(0, at) + "  !" + text.substring(at + 1)), -20 - at - 2);
                due(typed(x, text.substring(0, at) + "   " + text.substring(at)), text.split(",").length);
                same(x, all);
                // a city may end where a FEATURE or the next person could come
                boolean mayEnd = at >= 11 && ",abcdef".indexOf(text.charAt(at)) >= 0 && text.charAt(at - 1) != ',';
                due(typed(x, text.substring(0, at)), mayEnd ? text.substring(0, at).split(",").length : -20 - at);
            }
        }
    }

    @Sentence(promise = 0, words =
            "sheets 0 .. 3: nothing (at first), or a row of a LANE: 0 bytes, 1 shorts, 2 ints, 3 longs, of 0 "
            + "to 24 items.")
    static void sheetsAndLanes() {
        BlindBuff x = of("2x4@00;p039");
        int[] bits = {8, 16, 32, 64};
        for (int s = 0; s < 4; s++) {
            due(x.drop(s), NULL);
            for (int lane = 0; lane < 4; lane++) {
                due(x.sheet(s, lane, 6 * s + lane), 6 * s + lane);
                if (6 * s + lane > 0) {
                    // on 1 he is from 0, or up from 5; what is above a LANE's bits is lost
                    due(x.item(s, lane, 0, 1L + (lane == 3 ? 0 : 1L << bits[lane])), 1);
                    due(x.seen(s, lane, 0, 1, 0), 2);
                    due(x.item(s, lane, 0, 1L + (1L << bits[lane] - 1)), 1);
                    due(x.seen(s, lane, 0, 1, 0), 0);
                }
            }
            due(x.drop(s), 6 * s + 3);
            due(x.drop(s), NULL);
        }
    }

    public static void main(String[] args) throws Exception {
        runWhole(TermsTest.class, 0, 0);
    }
}
