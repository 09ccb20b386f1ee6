import java.util.function.Supplier;

/** The boundary cases that promises 1 to 30 name: a test for each such sentence. */
public final class PromiseBoundariesTest extends Edges {
    private static final Supplier<BlindBuff> IDLE = Edges::idle;
    private static final Supplier<BlindBuff> BUSY = Edges::busy;
    private static final Supplier<BlindBuff> CROWDED = Edges::crowded;
    private static final Supplier<BlindBuff> LATE = Edges::late;

    // ---- 1 streets, people

    @Sentence(promise = 1, words = "Streets, nobody.")
    static void aNewObjectIsEmpty() {
        BlindBuff x = new BlindBuff();
        int[] counts = {4, 5, 0, 0, 0, 0, 0, 0, NONE, 0};
        for (int what = 0; what < counts.length; what++) {
            due(x.count(what), counts[what]);
        }
        for (int what = 0; what < 9; what++) {
            due(x.of(0, what), BAD);
        }
        due(x.undo(), NONE);
        due(x.restore(), NONE);
        due(x.city(), -20);
        for (int s = 0; s < 4; s++) {
            due(x.drop(s), NULL);
        }
    }

    @Sentence(promise = 1, words = "Streets, nobody.")
    static void withNobodyTheMinutesPassAllTheSame() {
        BlindBuff x = new BlindBuff();
        due(x.minutes(40), 0);
        due(x.count(4), 40);
        due(x.count(3), 0);
        due(x.ahead(60, 0), 0);
        due(x.ahead(60, 1), 0);
        x.sheet(0, 0, 1);
        // wherever he were, he would stay there
        due(x.seen(0, 0, 0, 1, 0), 1);
        due(x.seen(0, 0, 0, 1, 1), 0);
    }

    @Sentence(promise = 2, words = "BAD")
    static void streetsOfTooFewOrTooManyRows() {
        for (int rows : beyond(2, 6)) {
            refused(BAD, BUSY, x -> x.streets(rows, 3));
        }
    }

    @Sentence(promise = 2, words = "BAD")
    static void streetsOfTooFewOrTooManyColumns() {
        for (int columns : beyond(2, 6)) {
            refused(BAD, BUSY, x -> x.streets(3, columns));
        }
        refused(BAD, IDLE, x -> x.streets(0, 0));
    }

    @Sentence(promise = 2, words = "how many CELLS")
    static void theSmallestAndTheLargestStreets() {
        BlindBuff x = new BlindBuff();
        for (int rows = 2; rows <= 6; rows++) {
            for (int columns = 2; columns <= 6; columns++) {
                due(x.streets(rows, columns), rows * columns);
                due(x.person(0, rows * columns, 0, 0), BAD);
                due(x.person(0, rows * columns - 1, 0, 0), 0);
            }
        }
    }

    @Sentence(promise = 2, words = "no PEOPLE, THE CONSTABLE on CELL 0, MINUTE, RIGHT, WRONG 0")
    static void newStreetsAreEmptyAlsoIfTheyAreOfTheSameSize() {
        BlindBuff x = of("2x3@12;p120a,p120a");
        due(x.minutes(2), 3);
        due(x.count(6) + 10 * x.count(7), 11);
        due(x.streets(2, 3), 6);
        int[] counts = {2, 3, 0, 0, 0, 0, 0, 0, NONE, 0};
        for (int what = 0; what < counts.length; what++) {
            due(x.count(what), counts[what]);
        }
    }

    @Sentence(promise = 3, words = "BAD")
    static void noSuchKind() {
        for (int kind : beyond(0, 4)) {
            refused(BAD, BUSY, x -> x.person(kind, 0, 0, 0));
        }
    }

    @Sentence(promise = 3, words = "BAD")
    static void noSuchCell() {
        for (int cell : beyond(0, 19)) {
            refused(BAD, BUSY, x -> x.person(0, cell, 0, 0));
        }
        BlindBuff small = new BlindBuff();
        small.streets(2, 2);
        due(small.person(0, 4, 0, 0), BAD);
        due(small.person(0, 3, 0, 0), 0);
    }

    @Sentence(promise = 3, words = "BAD")
    static void noSuchNoise() {
        for (int noise : beyond(0, 9)) {
            refused(BAD, BUSY, x -> x.person(0, 0, noise, 0));
        }
    }

    @Sentence(promise = 3, words = "BAD")
    static void aFaceThatIsNoSetOfFeatures() {
        for (int face : beyond(0, 63)) {
            refused(BAD, BUSY, x -> x.person(0, 0, 0, face));
        }
    }

    @Sentence(promise = 3, words = "FULL: 6")
    static void theSeventhPerson() {
        refused(FULL, CROWDED, x -> x.person(0, 0, 0, 0));
        BlindBuff x = new BlindBuff();
        for (int p = 0; p < 6; p++) {
            due(x.person(4, 19, 9, 63), p);
        }
        due(x.person(4, 19, 9, 63), FULL);
        due(x.count(2), 6);
        // in new streets there is room again
        x.streets(2, 2);
        due(x.person(0, 0, 0, 0), 0);
    }

    @Sentence(promise = 4, words = "BAD")
    static void ofNobody() {
        for (int person : beyond(0, 4)) {
            refused(BAD, BUSY, x -> x.of(person, 0));
        }
        for (int person : beyond(0, 5)) {
            refused(BAD, CROWDED, x -> x.of(person, 0));
        }
        refused(BAD, IDLE, x -> x.of(0, 0));
    }

    @Sentence(promise = 4, words = "BAD")
    static void nothingOfTheKindIsKnownOfAPerson() {
        for (int what : beyond(0, 8)) {
            refused(BAD, BUSY, x -> x.of(0, what));
        }
    }

    @Sentence(promise = 4, words = "how LOUD to THE CONSTABLE now (CAUGHT or not)")
    static void aCaughtOneIsAsLoud() {
        BlindBuff x = of("2x2@00;p009,b000,l003");
        int[] loud = {9, 4, 14};
        for (int minute = 0; minute <= 3; minute++) {
            for (int p = 0; p < 3; p++) {
                due(x.of(p, 5), p < minute ? 1 : 0);
                due(x.of(p, 7), loud[p]);
            }
            x.minutes(1);
        }
    }

    @Sentence(promise = 5, words = "0 NOISE (0 .. 9)")
    static void theLeastAndTheMostNoise() {
        BlindBuff x = busy();
        due(x.rule(1, 0, 9), 1);
        due(x.of(1, 2), 9);
        due(x.rule(1, 0, 0), 9);
        due(x.of(1, 2), 0);
        for (int v : beyond(0, 9)) {
            refused(BAD, BUSY, y -> y.rule(1, 0, v));
        }
    }

    @Sentence(promise = 5, words = "1 DISGUISE (a set)")
    static void noDisguiseAndTheWholeOne() {
        BlindBuff x = busy();
        due(x.rule(1, 1, 63), 2);
        due(x.of(1, 4), 63);
        due(x.rule(1, 1, 0), 63);
        due(x.of(1, 4), 0);
        for (int v : beyond(0, 63)) {
            refused(BAD, BUSY, y -> y.rule(1, 1, v));
        }
    }

    @Sentence(promise = 5, words = "BAD")
    static void ruleOfNobodyOrOfNothing() {
        for (int person : beyond(0, 4)) {
            refused(BAD, BUSY, x -> x.rule(person, 0, 1));
        }
        for (int what : beyond(0, 1)) {
            refused(BAD, BUSY, x -> x.rule(0, what, 1));
        }
        refused(BAD, IDLE, x -> x.rule(0, 0, 0));
    }

    @Sentence(promise = 6, words = "BAD: not 32 .. 126")
    static void noSuchLetter() {
        for (int letter : beyond(32, 126)) {
            refused(BAD, BUSY, x -> x.type(letter));
        }
        // numbers whose lowest bits are a letter
        refused(BAD, BUSY, x -> x.type('0' + 256));
        refused(BAD, BUSY, x -> x.type('0' + 65536));
        BlindBuff x = new BlindBuff();
        due(x.type(32), 1);
        due(x.type(126), 2);
    }

    private static BlindBuff ofAFullTape() {
        BlindBuff x = of("2x2@00;p000");
        type(x, "6x6@55;p009abcdef,s551abcdef,b052abcdef,h503abcdef,l334abcdef,p225abcdef");
        type(x, "                  ");
        return x;
    }

    @Sentence(promise = 6, words = "FULL: 90")
    static void theLetterBehindAFullTape() {
        refused(FULL, PromiseBoundariesTest::ofAFullTape, x -> x.type(' '));
        BlindBuff x = new BlindBuff();
        for (int n = 1; n <= 90; n++) {
            due(x.type('a'), n);
        }
        due(x.type('a'), FULL);
        due(x.type(31), BAD);
        due(x.city(), -20);
        due(x.type('a'), 1);
    }

    @Sentence(promise = 7, words = "THE TAPE, which is empty then, is a CITY: how many PEOPLE")
    static void aFullTapeIsReadToItsEnd() {
        BlindBuff x = ofAFullTape();
        due(x.type('a'), FULL);
        due(x.city(), 6);
        due(x.of(5, 3), 63);
        due(x.type('a'), 1);
        // all 90 letters, and the 90th is wrong
        BlindBuff y = new BlindBuff();
        type(y, " ".repeat(89) + "7");
        due(y.city(), -109);
        type(y, " ".repeat(90));
        due(y.city(), -110);
    }

    @Sentence(promise = 7, words = "which is empty then")
    static void theTapeIsEmptyBehindACityAndBehindAFault() {
        BlindBuff x = new BlindBuff();
        due(typed(x, "2x2@00;p000"), 1);
        due(x.city(), -20);
        due(typed(x, "2x2@"), -24);
        due(x.city(), -20);
        due(x.type('2'), 1);
    }

    @Sentence(promise = 7, words = "A FAULT (all else stays)")
    static void aFaultLeavesAllButTheTape() {
        // the text of 'busy' ends ahead of its last digit
        BlindBuff x = busy();
        due(x.city(), -30);
        BlindBuff y = busy();
        type(y, "9");
        due(y.type('~'), 12);
        due(y.city(), -31);
        due(used(x), used(y));
        BlindBuff z = busy();
        due(z.city(), -30);
        same(z, all(busy()));
        due(z.undo(), 2);
    }

    @Sentence(promise = 8, words = "BAD")
    static void nothingOfTheKindIsCounted() {
        for (int what : beyond(0, 9)) {
            refused(BAD, BUSY, x -> x.count(what));
        }
    }

    @Sentence(promise = 8, words = "8 whom he follows in this MINUTE (NONE)")
    static void heFollowsNobody() {
        due(new BlindBuff().count(8), NONE);
        due(of("2x2@00;p110").count(8), NONE);
        due(of("2x2@00;h009").count(8), NONE);
        BlindBuff caught = of("2x2@00;p009");
        due(caught.count(8), 0);
        caught.minutes(1);
        due(caught.count(8), NONE);
    }

    @Sentence(promise = 8, words = "9 what may be UNDONE")
    static void fromNoneToEightMayBeUndone() {
        BlindBuff x = new BlindBuff();
        for (int n = 0; n <= 10; n++) {
            due(x.count(9), Math.min(n, 8));
            x.minutes(1);
        }
    }

    @Sentence(promise = 8, words = "5 who is CAUGHT (a set)")
    static void fromNobodyToAllSix() {
        BlindBuff x = of("2x2@00;p000,p000,p000,p000,p000,p000");
        for (int n = 0; n <= 7; n++) {
            due(x.count(5), n < 6 ? (1 << n) - 1 : 63);
            x.minutes(1);
        }
    }

    // ---- what is done

    @Sentence(promise = 9, words = "n MINUTES (1 .. 40)")
    static void theFewestAndTheMostMinutes() {
        BlindBuff x = of("2x6@00;p059");
        due(x.minutes(1), 0);
        due(x.count(4), 1);
        due(x.minutes(40), 1);
        due(x.count(4), 41);
    }

    @Sentence(promise = 9, words = "BAD")
    static void tooFewOrTooManyMinutes() {
        for (int n : beyond(1, 40)) {
            refused(BAD, BUSY, x -> x.minutes(n));
        }
        refused(BAD, LATE, x -> x.minutes(0));
        refused(BAD, LATE, x -> x.minutes(41));
    }

    @Sentence(promise = 9, words = "FULL: the MINUTE would be above 9999")
    static void theMinuteBehindTheLast() {
        refused(FULL, LATE, x -> x.minutes(1));
        BlindBuff x = of("2x2@00;p110");
        passTo(x, 9960);
        due(x.minutes(40), FULL);
        due(x.count(4), 9960);
        due(x.minutes(39), 0);
        due(x.count(4), 9999);
        // walks and what is LET GO take no MINUTE; what is UNDONE gives one back
        due(x.walk(0, 0), 1);
        due(x.undo(), 7);
        due(x.undo(), 6);
        due(x.minutes(2), FULL);
        due(x.minutes(1), 0);
    }

    @Sentence(promise = 10, words = "(0 .. 3)")
    static void theFirstAndTheLastWay() {
        BlindBuff x = of("3x3@00;p110");
        due(x.walk(0, 0), 1);
        due(x.walk(0, 1), 4);
        due(x.walk(0, 2), 3);
        due(x.walk(0, 3), 4);
    }

    @Sentence(promise = 10, words = "BAD")
    static void nobodyWalksOrNoSuchWay() {
        for (int person : beyond(0, 4)) {
            refused(BAD, BUSY, x -> x.walk(person, 1));
        }
        for (int way : beyond(0, 3)) {
            refused(BAD, BUSY, x -> x.walk(2, way));
        }
        refused(BAD, IDLE, x -> x.walk(0, 0));
    }

    @Sentence(promise = 10, words = "NOT: it is CAUGHT, there is no such CELL")
    static void aCaughtOneDoesNotWalk() {
        for (int way = 0; way < 4; way++) {
            int told = way;
            refused(NOT, BUSY, x -> x.walk(0, told));
        }
    }

    @Sentence(promise = 10, words = "NOT: it is CAUGHT, there is no such CELL")
    static void noWalkLeavesTheStreets() {
        String[] corners = {"2x3@00;p000", "2x3@00;p020", "2x3@00;p100", "2x3@00;p120"};
        // bits: the ways that lead out; at the end of a ROW the next number is not the next CELL
        int[] out = {1 + 4, 1 + 8, 2 + 4, 2 + 8};
        for (int c = 0; c < 4; c++) {
            String text = corners[c];
            for (int way = 0; way < 4; way++) {
                int told = way;
                if ((out[c] >> way & 1) == 1) {
                    refused(NOT, () -> of(text), x -> x.walk(0, told));
                } else {
                    holds(of(text).walk(0, told) >= 0, "there is a CELL");
                }
            }
        }
    }

    @Sentence(promise = 11, words = "BAD")
    static void nobodyIsLetGo() {
        for (int person : beyond(0, 4)) {
            refused(BAD, BUSY, x -> x.free(person));
        }
        refused(BAD, IDLE, x -> x.free(0));
    }

    @Sentence(promise = 11, words = "NOT: it is FREE")
    static void aFreeOneIsNotLetGo() {
        for (int p = 1; p < 5; p++) {
            int person = p;
            refused(NOT, BUSY, x -> x.free(person));
        }
        BlindBuff x = busy();
        due(x.free(0), 0);
        due(x.free(0), NOT);
    }

    @Sentence(promise = 12, words = "A DRIFT of n MINUTES (1 .. 40)")
    static void theShortestAndTheLongestDrift() {
        BlindBuff x = of("2x2@00;p110");
        holds(x.drift(1) >= 0, "1 is enough");
        due(x.count(4), 1);
        holds(x.drift(40) >= 0, "40 is not too many");
        due(x.count(4), 41);
        due(x.count(9), 8);
    }

    @Sentence(promise = 12, words = "BAD")
    static void tooShortOrTooLongADrift() {
        for (int n : beyond(1, 40)) {
            refused(BAD, BUSY, x -> x.drift(n));
            refused(BAD, IDLE, x -> x.drift(n));
        }
    }

    @Sentence(promise = 12, words = "NOT: no PEOPLE")
    static void nobodyDrifts() {
        refused(NOT, IDLE, x -> x.drift(1));
        refused(NOT, IDLE, x -> x.drift(40));
        BlindBuff x = busy();
        x.streets(2, 2);
        due(x.drift(1), NOT);
    }

    @Sentence(promise = 12, words = "FULL: likewise")
    static void aDriftBeyondTheLastMinute() {
        refused(FULL, LATE, x -> x.drift(1));
        BlindBuff x = of("2x2@00;p110");
        passTo(x, 9960);
        due(x.drift(40), FULL);
        due(x.count(4), 9960);
        due(x.seed(1), 1);
        holds(x.drift(39) >= 0, "9999 can be reached");
        due(x.count(4), 9999);
        due(x.drift(1), FULL);
    }

    @Sentence(promise = 13, words = "how many more may be")
    static void fromTheEighthToTheLast() {
        BlindBuff x = of("2x2@00;p110");
        x.minutes(9);
        for (int left = 7; left >= 0; left--) {
            due(x.undo(), left);
            due(x.count(9), left);
        }
        due(x.count(4), 1);
    }

    @Sentence(promise = 13, words = "NONE: none is known")
    static void nothingIsLeftToBeUndone() {
        refused(NONE, BlindBuff::new, BlindBuff::undo);
        refused(NONE, () -> of("3x3@11;p009"), BlindBuff::undo);
        refused(NONE, () -> {
            BlindBuff x = busy();
            x.undo();
            x.undo();
            x.undo();
            return x;
        }, BlindBuff::undo);
        BlindBuff x = busy();
        x.streets(1, 1);
        due(x.undo(), 2);
        due(x.undo(), 1);
        due(x.undo(), 0);
        due(x.undo(), NONE);
    }

    @Sentence(promise = 14, words = "BAD: below 0")
    static void aDrawBelowNought() {
        refused(BAD, BUSY, x -> x.seed(-1));
        refused(BAD, BUSY, x -> x.seed(LOW));
        BlindBuff x = new BlindBuff();
        due(x.seed(0), 1);
        due(x.seed(HIGH), 0);
        due(x.seed(0), HIGH);
    }

    // ---- 2 foretold

    @Sentence(promise = 15, words = "BAD")
    static void nothingSoFarOrOfTheKindIsForetold() {
        for (int n : beyond(0, 60)) {
            refused(BAD, BUSY, x -> x.ahead(n, 0));
        }
        for (int what : beyond(0, 3)) {
            refused(BAD, BUSY, x -> x.ahead(1, what));
        }
    }

    @Sentence(promise = 15, words = "Behind n MINUTES")
    static void behindNoMinuteAllIsAsItIsNow() {
        BlindBuff x = crowded();
        int[] same = {3, 5, 6, 7};
        for (int what = 0; what < 4; what++) {
            due(x.ahead(0, what), x.count(same[what]));
        }
    }

    @Sentence(promise = 15, words = "Behind n MINUTES")
    static void behindTheLastMinuteMoreIsForetold() {
        BlindBuff x = of("2x6@00;h059");
        passTo(x, 9990);
        due(x.free(0), 0);
        due(x.rule(0, 0, 0), 9);
        x.walk(0, 2);
        x.rule(0, 0, 9);
        due(x.count(3), 5);
        due(x.ahead(1, 1), 0);
        due(x.ahead(2, 1), 1);
        due(x.ahead(60, 1), 1);
        BlindBuff y = late();
        y.rule(0, 0, 9);
        due(y.ahead(1, 0), 2);
        due(y.ahead(2, 1), 1);
        due(y.next(1), 2);
        due(y.count(4), 9999);
    }

    @Sentence(promise = 16, words = "NONE")
    static void nobodyIsCaughtNext() {
        Supplier<BlindBuff> unheard = () -> of("2x2@00;p110");
        for (int what = 0; what <= 2; what++) {
            int told = what;
            refused(NONE, IDLE, x -> x.next(told));
            refused(NONE, unheard, x -> x.next(told));
        }
    }

    @Sentence(promise = 16, words = "BAD")
    static void nothingOfTheKindIsAskedOfNext() {
        for (int what : beyond(0, 2)) {
            refused(BAD, CROWDED, x -> x.next(what));
            refused(BAD, IDLE, x -> x.next(what));
        }
    }

    @Sentence(promise = 17, words = "BAD")
    static void nobodyStandsOrNothingIsAsked() {
        for (int person : beyond(0, 4)) {
            refused(BAD, BUSY, x -> x.stand(person, 0));
        }
        for (int what : beyond(0, 1)) {
            refused(BAD, BUSY, x -> x.stand(1, what));
        }
        refused(BAD, IDLE, x -> x.stand(0, 0));
    }

    @Sentence(promise = 17, words = "NOT: it is CAUGHT")
    static void aCaughtOneCannotStandElsewhere() {
        refused(NOT, BUSY, x -> x.stand(0, 0));
        refused(NOT, BUSY, x -> x.stand(0, 1));
    }

    @Sentence(promise = 18, words = "NONE")
    static void noHushIsEnough() {
        // on his CELL, and he stays; always heard
        refused(NONE, () -> of("2x2@00;p000"), x -> x.hush(0, 1));
        refused(NONE, () -> of("2x2@00;b019"), x -> x.hush(0, 60));
    }

    @Sentence(promise = 18, words = "BAD")
    static void nobodyHushesOrForNoSuchTime() {
        for (int person : beyond(0, 4)) {
            refused(BAD, BUSY, x -> x.hush(person, 1));
        }
        for (int n : beyond(1, 60)) {
            refused(BAD, BUSY, x -> x.hush(1, n));
        }
        refused(BAD, IDLE, x -> x.hush(0, 1));
    }

    @Sentence(promise = 18, words = "NOT: it is CAUGHT")
    static void aCaughtOneCannotHush() {
        refused(NOT, BUSY, x -> x.hush(0, 1));
        refused(NOT, BUSY, x -> x.hush(0, 60));
    }

    @Sentence(promise = 19, words = "NONE")
    static void noMaskIsEnough() {
        Supplier<BlindBuff> alone = () -> of("2x2@00;p000a");
        Supplier<BlindBuff> twins = () -> of("2x2@00;p000a,p000a");
        for (int what = 0; what <= 1; what++) {
            int told = what;
            refused(NONE, alone, x -> x.mask(0, told));
            refused(NONE, twins, x -> x.mask(0, told));
            due(twins.get().mask(1, told), 0);
        }
    }

    @Sentence(promise = 19, words = "BAD")
    static void nobodyIsMaskedOrNothingIsAsked() {
        for (int person : beyond(0, 4)) {
            refused(BAD, BUSY, x -> x.mask(person, 0));
        }
        for (int what : beyond(0, 1)) {
            refused(BAD, BUSY, x -> x.mask(0, what));
            refused(BAD, () -> of("2x2@00;p000a"), x -> x.mask(0, what));
        }
        refused(BAD, IDLE, x -> x.mask(0, 0));
    }

    @Sentence(promise = 20, words = "NONE")
    static void noneAreAlike() {
        Supplier<BlindBuff> unlike = () -> of("2x2@00;p000,p000a,p000b");
        refused(NONE, unlike, x -> x.alike(0, 1));
        due(unlike.get().alike(0, 0), 0);
        // one is no pair, nor is nobody
        refused(NONE, () -> of("2x2@00;p000"), x -> x.alike(6, 1));
        refused(NONE, IDLE, x -> x.alike(6, 1));
        due(idle().alike(6, 0), 0);
    }

    @Sentence(promise = 20, words = "BAD")
    static void alikeByTooFewOrTooMany() {
        for (int k : beyond(0, 6)) {
            refused(BAD, BUSY, x -> x.alike(k, 0));
        }
        for (int what : beyond(0, 1)) {
            refused(BAD, BUSY, x -> x.alike(6, what));
            refused(BAD, IDLE, x -> x.alike(6, what));
        }
    }

    @Sentence(promise = 21, words = "NONE")
    static void fromNoCell() {
        // of two on one CELL the second is never the first to be CAUGHT
        Supplier<BlindBuff> second = () -> of("2x2@00;p009,p009");
        refused(NONE, second, x -> x.turned(1, 1));
        due(second.get().turned(1, 0), 0);
        refused(NONE, BUSY, x -> x.turned(0, 1));
        due(busy().turned(0, 0), 0);
    }

    @Sentence(promise = 21, words = "BAD")
    static void nobodyIsTurnedToOrNothingIsAsked() {
        for (int person : beyond(0, 4)) {
            refused(BAD, BUSY, x -> x.turned(person, 0));
        }
        for (int what : beyond(0, 1)) {
            refused(BAD, BUSY, x -> x.turned(0, what));
        }
        refused(BAD, IDLE, x -> x.turned(0, 0));
    }

    @Sentence(promise = 22, words = "BAD")
    static void noSuchLuck() {
        for (int person : beyond(0, 4)) {
            refused(BAD, BUSY, x -> x.luck(person, 5, 0));
        }
        for (int c : beyond(0, 10)) {
            refused(BAD, BUSY, x -> x.luck(1, c, 0));
        }
        for (int what : beyond(0, 1)) {
            refused(BAD, BUSY, x -> x.luck(1, 5, what));
        }
        refused(BAD, IDLE, x -> x.luck(0, 5, 0));
    }

    @Sentence(promise = 23, words = "All but SHEETS, THE TAPE is kept as an IMAGE")
    static void anImageOfNothingAndOneOverAnother() {
        BlindBuff x = new BlindBuff();
        due(x.image(), 1);
        String nothing = all(x);
        due(typed(x, "2x2@11;p009,s005"), 2);
        due(x.restore(), 1);
        same(x, nothing);
        due(typed(x, "2x2@11;p009,s005"), 2);
        String city = all(x);
        due(x.image(), 1);
        x.streets(6, 6);
        due(x.restore(), 1);
        same(x, city);
    }

    @Sentence(promise = 23, words = "All but SHEETS, THE TAPE is kept as an IMAGE")
    static void sheetsAndTheTapeAreNotKept() {
        BlindBuff x = busy();
        due(x.image(), 1);
        x.type('9');
        x.drop(0);
        x.sheet(3, 1, 24);
        due(x.restore(), 1);
        due(x.drop(0), NULL);
        due(x.drop(3), 24);
        due(x.city(), 1);
    }

    @Sentence(promise = 24, words = "NONE: there is none")
    static void nothingToRestore() {
        refused(NONE, BlindBuff::new, BlindBuff::restore);
        refused(NONE, CROWDED, BlindBuff::restore);
    }

    @Sentence(promise = 24, words = "All is as it was then")
    static void whatMayBeUndoneIsAsItWasThenAlsoWhenItIsFull() {
        BlindBuff x = of("2x6@00;p059");
        x.minutes(9);
        x.image();
        String was = all(x);
        for (int i = 0; i < 8; i++) {
            x.undo();
        }
        x.walk(0, 1);
        due(x.restore(), 1);
        same(x, was);
        for (int left = 7; left >= 0; left--) {
            due(x.undo(), left);
            due(x.count(4), left + 1);
            due(x.count(3), Math.min(left + 1, 5));
        }
        due(x.undo(), NONE);
        // and again, though all of it has been UNDONE since
        due(x.restore(), 1);
        same(x, was);
    }

    // ---- 3 sheets

    @Sentence(promise = 25, words = "BAD")
    static void nothingIsSeenOfNoSheetOrLaneOrSoManyItems() {
        for (int number : beyond(0, 3)) {
            refused(BAD, BUSY, x -> x.seen(number, 2, 0, 1, 0));
            refused(BAD, BUSY, x -> x.seen(0, number, 0, 1, 0));
        }
        for (int n : beyond(1, 8)) {
            refused(BAD, BUSY, x -> x.seen(0, 2, 0, n, 0));
        }
        for (int what : beyond(0, 1)) {
            refused(BAD, BUSY, x -> x.seen(0, 2, 0, 1, what));
        }
    }

    @Sentence(promise = 25, words = "NULL")
    static void seenOfNothing() {
        for (int lane = 0; lane < 4; lane++) {
            int told = lane;
            refused(NULL, BUSY, x -> x.seen(3, told, 0, 1, 0));
        }
    }

    @Sentence(promise = 25, words = "CAST")
    static void seenOfAnotherLane() {
        for (int lane : new int[] {0, 1, 3}) {
            refused(CAST, BUSY, x -> x.seen(0, lane, 0, 1, 0));
        }
    }

    @Sentence(promise = 25, words = "INDEX")
    static void seenBeyondTheRow() {
        for (int i : new int[] {-1, 3, LOW, HIGH}) {
            refused(INDEX, BUSY, x -> x.seen(0, 2, i, 1, 0));
        }
        refused(INDEX, BUSY, x -> x.seen(0, 2, 0, 4, 0));
        refused(INDEX, BUSY, x -> x.seen(0, 2, 1, 3, 0));
        refused(INDEX, BUSY, x -> x.seen(2, 3, 0, 1, 0));
        holds(busy().seen(0, 2, 0, 3, 0) > 0, "the whole row is seen");
        holds(busy().seen(0, 2, 2, 1, 0) > 0, "the last item is seen");
    }

    @Sentence(promise = 25, words = "the first (1; NONE)")
    static void seenFromNoCell() {
        for (long v : new long[] {-1, 20, 127, -128}) {
            BlindBuff x = busy();
            due(x.item(1, 0, 4, v), 1);
            due(x.seen(1, 0, 4, 1, 0), 0);
            due(x.seen(1, 0, 4, 1, 1), NONE);
        }
    }

    @Sentence(promise = 26, words = "behind 1, 2, .. n MINUTES (1 .. 24)")
    static void theShortestAndTheLongestFilm() {
        BlindBuff x = of("2x6@00;p059");
        x.sheet(0, 1, 24);
        due(x.film(24, 0, 1, 0), 24);
        // from the 5th MINUTE on he is on 5: so he is from 5 itself, from 4 and up from 11
        due(x.seen(0, 1, 23, 1, 0), 3);
        due(x.seen(0, 1, 3, 1, 1), 3);
        x.sheet(1, 1, 1);
        due(x.film(1, 1, 1, 0), 1);
        due(x.seen(1, 1, 0, 1, 1), 0);
    }

    @Sentence(promise = 26, words = "BAD")
    static void noSuchFilm() {
        for (int n : beyond(1, 24)) {
            refused(BAD, BUSY, x -> x.film(n, 0, 2, 0));
        }
        for (int number : beyond(0, 3)) {
            refused(BAD, BUSY, x -> x.film(1, number, 2, 0));
            refused(BAD, BUSY, x -> x.film(1, 0, number, 0));
        }
    }

    @Sentence(promise = 26, words = "NULL")
    static void aFilmOnNothing() {
        for (int lane = 0; lane < 4; lane++) {
            int told = lane;
            refused(NULL, BUSY, x -> x.film(1, 3, told, 0));
        }
    }

    @Sentence(promise = 26, words = "CAST")
    static void aFilmOnAnotherLane() {
        for (int lane : new int[] {0, 1, 3}) {
            refused(CAST, BUSY, x -> x.film(1, 0, lane, 0));
        }
    }

    /** Like 'busy', but he walks in each MINUTE that comes, so that a film cut short would be seen on the row. */
    private static BlindBuff onTheMove() {
        BlindBuff x = of("2x6@00;p059");
        x.sheet(0, 2, 3);
        for (int i = 0; i < 3; i++) {
            x.item(0, 2, i, 11 - i);
        }
        return x;
    }

    @Sentence(promise = 26, words = "INDEX")
    static void aFilmBeyondTheRow() {
        for (int i : new int[] {-1, 3, LOW, HIGH}) {
            refused(INDEX, PromiseBoundariesTest::onTheMove, x -> x.film(1, 0, 2, i));
        }
        refused(INDEX, PromiseBoundariesTest::onTheMove, x -> x.film(4, 0, 2, 0));
        refused(INDEX, PromiseBoundariesTest::onTheMove, x -> x.film(3, 0, 2, 1));
        refused(INDEX, PromiseBoundariesTest::onTheMove, x -> x.film(3, 0, 2, -1));
        refused(INDEX, BUSY, x -> x.film(1, 2, 3, 0));
        BlindBuff x = onTheMove();
        due(x.film(3, 0, 2, 0), 3);
        due(x.film(1, 0, 2, 2), 1);
    }

    @Sentence(promise = 27, words = "BAD: also n above 24")
    static void tooLongARow() {
        refused(BAD, BUSY, x -> x.sheet(0, 2, 25));
        refused(BAD, BUSY, x -> x.sheet(3, 0, HIGH));
        BlindBuff x = busy();
        due(x.sheet(0, 3, 24), 24);
        due(x.item(0, 3, 23, 1), 1);
        due(x.item(0, 3, 24, 1), INDEX);
    }

    @Sentence(promise = 27, words = "BAD: also n above 24")
    static void noSuchSheetOrLane() {
        for (int number : beyond(0, 3)) {
            refused(BAD, BUSY, x -> x.sheet(number, 2, 3));
            refused(BAD, BUSY, x -> x.sheet(0, number, 3));
        }
    }

    @Sentence(promise = 27, words = "SIZE: n below 0")
    static void aRowOfLessThanNothing() {
        refused(SIZE, BUSY, x -> x.sheet(0, 2, -1));
        refused(SIZE, BUSY, x -> x.sheet(3, 0, LOW));
        BlindBuff x = busy();
        due(x.sheet(0, 2, 0), 0);
        due(x.item(0, 2, 0, 1), INDEX);
        due(x.drop(0), 0);
    }

    @Sentence(promise = 27, words = "A SHEET holds a new row of a LANE")
    static void aNewRowIsEmptyOfWhatStoodThere() {
        BlindBuff x = rows();
        due(x.sheet(1, 0, 6), 6);
        due(row(x, 1, 6), "0 0 0 0 0 0");
        // shorter and longer again: nothing of the old row comes back
        due(x.sheet(0, 0, 1), 1);
        due(x.sheet(0, 0, 6), 6);
        due(row(x, 0, 6), "0 0 0 0 0 0");
        BlindBuff y = rows();
        due(y.drop(0), 6);
        due(y.sheet(0, 0, 6), 6);
        due(row(y, 0, 6), "0 0 0 0 0 0");
    }

    @Sentence(promise = 28, words = "BAD")
    static void noSuchSheetIsDropped() {
        for (int number : beyond(0, 3)) {
            refused(BAD, BUSY, x -> x.drop(number));
        }
    }

    @Sentence(promise = 28, words = "NULL")
    static void nothingIsDropped() {
        refused(NULL, BUSY, x -> x.drop(3));
        BlindBuff x = busy();
        due(x.drop(2), 0);
        due(x.drop(2), NULL);
    }

    @Sentence(promise = 28, words = "how many items it had")
    static void anEmptyAndAFullRowAreDropped() {
        BlindBuff x = new BlindBuff();
        for (int n = 0; n <= 24; n++) {
            x.sheet(n % 4, n % 3, n);
            due(x.drop(n % 4), n);
            due(x.drop(n % 4), NULL);
        }
    }

    @Sentence(promise = 29, words = "becomes v, its lowest bits")
    static void tooLargeAndTooSmallAnItem() {
        // with nobody he is on a CELL from that CELL alone: an item is the first CELL from which it is seen
        BlindBuff x = new BlindBuff();
        long[] turn = {1L << 8, 1L << 16, 1L << 32, 0};
        for (int lane = 0; lane < 4; lane++) {
            x.sheet(0, lane, 1);
            for (int times = -2; times <= 2; times++) {
                due(x.item(0, lane, 0, 7 + times * turn[lane]), 1);
                due(x.seen(0, lane, 0, 1, 1), 7);
            }
            x.item(0, lane, 0, 7 + turn[lane] / 2 + (lane == 3 ? 1L << 32 : 0));
            due(x.seen(0, lane, 0, 1, 1), NONE);
            x.item(0, lane, 0, Long.MIN_VALUE + 7);
            due(x.seen(0, lane, 0, 1, 1), lane == 3 ? NONE : 7);
            x.item(0, lane, 0, Long.MAX_VALUE);
            due(x.seen(0, lane, 0, 1, 1), NONE);
        }
    }

    @Sentence(promise = 29, words = "BAD")
    static void anItemOfNoSheetOrLane() {
        for (int number : beyond(0, 3)) {
            refused(BAD, BUSY, x -> x.item(number, 2, 0, 1));
            refused(BAD, BUSY, x -> x.item(0, number, 0, 1));
        }
    }

    @Sentence(promise = 29, words = "NULL")
    static void anItemOfNothing() {
        for (int lane = 0; lane < 4; lane++) {
            int told = lane;
            refused(NULL, BUSY, x -> x.item(3, told, 0, 1));
        }
    }

    @Sentence(promise = 29, words = "CAST")
    static void anItemOfAnotherLane() {
        for (int lane : new int[] {0, 1, 3}) {
            refused(CAST, BUSY, x -> x.item(0, lane, 0, 1));
        }
    }

    @Sentence(promise = 29, words = "INDEX")
    static void anItemBeyondTheRow() {
        for (int i : new int[] {-1, 3, LOW, HIGH}) {
            refused(INDEX, BUSY, x -> x.item(0, 2, i, 1));
        }
        refused(INDEX, BUSY, x -> x.item(2, 3, 0, 1));
        BlindBuff x = busy();
        due(x.item(0, 2, 0, 1), 1);
        due(x.item(0, 2, 2, 1), 1);
    }

    /** With nobody, so that each item can be read: a row of 0 .. 5, one of 10 .. 13, one of shorts, and none. */
    private static BlindBuff rows() {
        BlindBuff x = new BlindBuff();
        x.sheet(0, 0, 6);
        x.sheet(1, 0, 4);
        x.sheet(2, 1, 6);
        for (int i = 0; i < 6; i++) {
            x.item(0, 0, i, i);
            x.item(1, 0, i, 10 + i);
        }
        return x;
    }

    private static String row(BlindBuff x, int sheet, int n) {
        StringBuilder b = new StringBuilder();
        for (int i = 0; i < n; i++) {
            b.append(i == 0 ? "" : " ").append(x.seen(sheet, 0, i, 1, 1));
        }
        return b.toString();
    }

    @Sentence(promise = 30, words = "as if all were taken ahead")
    static void aCopyOntoItself() {
        BlindBuff x = rows();
        due(x.copy(0, 0, 0, 1, 5), 5);
        due(row(x, 0, 6), "0 0 1 2 3 4");
        BlindBuff y = rows();
        due(y.copy(0, 1, 0, 0, 5), 5);
        due(row(y, 0, 6), "1 2 3 4 5 5");
        BlindBuff z = rows();
        due(z.copy(0, 0, 0, 0, 6), 6);
        due(row(z, 0, 6), "0 1 2 3 4 5");
    }

    @Sentence(promise = 30, words = "n items of a SHEET from i on come to another one (or the same) from j on")
    static void aCopyOfNothingAndOfAll() {
        BlindBuff x = rows();
        due(x.copy(0, 6, 1, 4, 0), 0);
        due(x.copy(0, 0, 1, 0, 0), 0);
        due(row(x, 1, 4), "10 11 12 13");
        due(x.copy(1, 0, 0, 2, 4), 4);
        due(row(x, 0, 6), "0 1 10 11 12 13");
        due(x.copy(0, 5, 1, 3, 1), 1);
        due(row(x, 1, 4), "10 11 12 13");
        due(x.copy(0, 0, 1, 0, 4), 4);
        due(row(x, 1, 4), "0 1 10 11");
    }

    @Sentence(promise = 30, words = "BAD")
    static void aCopyOfNoSheetOrToNone() {
        for (int number : beyond(0, 3)) {
            refused(BAD, PromiseBoundariesTest::rows, x -> x.copy(number, 0, 1, 0, 1));
            refused(BAD, PromiseBoundariesTest::rows, x -> x.copy(0, 0, number, 0, 1));
        }
    }

    @Sentence(promise = 30, words = "NULL (either)")
    static void aCopyOfNothingOrToNothing() {
        refused(NULL, PromiseBoundariesTest::rows, x -> x.copy(3, 0, 1, 0, 1));
        refused(NULL, PromiseBoundariesTest::rows, x -> x.copy(0, 0, 3, 0, 1));
        refused(NULL, PromiseBoundariesTest::rows, x -> x.copy(3, 0, 3, 0, 0));
    }

    @Sentence(promise = 30, words = "CAST: of unlike LANES")
    static void aCopyToAnotherLane() {
        refused(CAST, PromiseBoundariesTest::rows, x -> x.copy(0, 0, 2, 0, 1));
        refused(CAST, PromiseBoundariesTest::rows, x -> x.copy(2, 0, 0, 0, 1));
        refused(CAST, PromiseBoundariesTest::rows, x -> x.copy(2, 0, 0, 0, 0));
    }

    @Sentence(promise = 30, words = "INDEX")
    static void aCopyBeyondARow() {
        int[][] beyond = {{-1, 0, 1}, {0, -1, 1}, {0, 0, -1}, {6, 0, 1}, {0, 4, 1}, {0, 0, 5}, {3, 0, 4}, {0, 1, 4},
            {7, 0, 0}, {0, 5, 0}, {-1, 0, 0}, {0, -1, 0}, {LOW, 0, 1}, {0, LOW, 1}, {0, 0, LOW}, {HIGH, 0, 1},
            {0, HIGH, 1}, {0, 0, HIGH}, {HIGH, HIGH, HIGH}, {LOW, LOW, LOW}, {1, 1, HIGH}};
        for (int[] a : beyond) {
            refused(INDEX, PromiseBoundariesTest::rows, x -> x.copy(0, a[0], 1, a[1], a[2]));
        }
        refused(INDEX, PromiseBoundariesTest::rows, x -> x.copy(0, 1, 0, 2, 5));
    }

    public static void main(String[] args) throws Exception {
        runEdges(PromiseBoundariesTest.class, 1, 30);
    }
}
