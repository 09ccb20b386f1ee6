/** The boundary cases that the document's Terms name: a test for each such sentence. */
public final class TermBoundariesTest extends Edges {
    // ---- answers

    @Sentence(promise = 0, words = "An object is used for at most 512 calls after it has been made")
    static void theLastCallIsAnsweredAsTheFirst() {
        BlindBuff x = of("2x6@00;p059");
        for (int call = 13; call <= 508; call++) {
            due(x.ahead(60, 1), 1);
        }
        due(x.minutes(4), 0);
        due(x.count(3), 4);
        due(x.next(1), 1);
        due(x.undo(), 3);
        // what comes now is free, but nothing is thrown
        for (int call = 513; call < 3000; call++) {
            x.drift(40);
            x.type('a');
        }
    }

    @Sentence(promise = 0, words = "of several the first that a call names")
    static void badComesAheadOfFull() {
        refused(BAD, Edges::crowded, x -> x.person(0, 0, 0, 64));
        refused(BAD, Edges::late, x -> x.minutes(41));
        refused(BAD, Edges::late, x -> x.drift(0));
        BlindBuff x = new BlindBuff();
        type(x, " ".repeat(90));
        due(x.type(31), BAD);
        due(x.type(32), FULL);
    }

    @Sentence(promise = 0, words = "of several the first that a call names")
    static void badComesAheadOfNot() {
        refused(BAD, Edges::busy, x -> x.walk(0, 4));
        refused(BAD, Edges::busy, x -> x.stand(0, 2));
        refused(BAD, Edges::busy, x -> x.hush(0, 61));
        refused(BAD, Edges::idle, x -> x.drift(41));
    }

    @Sentence(promise = 0, words = "of several the first that a call names")
    static void notComesAheadOfFull() {
        BlindBuff x = new BlindBuff();
        passTo(x, 9999);
        due(x.drift(1), NOT);
        due(x.person(0, 0, 0, 0), 0);
        due(x.drift(1), FULL);
    }

    @Sentence(promise = 0, words = "of several the first that a call names")
    static void badComesAheadOfWhatTheMachineFinds() {
        refused(BAD, Edges::busy, x -> x.seen(3, 4, -1, 1, 0));
        refused(BAD, Edges::busy, x -> x.seen(3, 0, -1, 9, 0));
        refused(BAD, Edges::busy, x -> x.seen(3, 0, -1, 1, 2));
        refused(BAD, Edges::busy, x -> x.film(25, 3, 0, -1));
        refused(BAD, Edges::busy, x -> x.film(1, 3, 4, -1));
        refused(BAD, Edges::busy, x -> x.item(3, -1, -1, 0));
        refused(BAD, Edges::busy, x -> x.copy(3, -1, 4, -1, -1));
        refused(BAD, Edges::busy, x -> x.copy(4, -1, 3, -1, -1));
        refused(BAD, Edges::busy, x -> x.sheet(4, 0, -1));
        refused(BAD, Edges::busy, x -> x.sheet(0, 4, -1));
    }

    @Sentence(promise = 0, words = "(NULL, CAST, INDEX, SIZE in this order)")
    static void nullCastIndex() {
        refused(NULL, Edges::busy, x -> x.seen(3, 0, -1, 1, 0));
        refused(NULL, Edges::busy, x -> x.film(1, 3, 0, 24));
        refused(NULL, Edges::busy, x -> x.item(3, 0, -1, 0));
        refused(NULL, Edges::busy, x -> x.copy(0, -1, 3, -1, -1));
        refused(CAST, Edges::busy, x -> x.seen(0, 0, 3, 1, 0));
        refused(CAST, Edges::busy, x -> x.film(24, 0, 0, 0));
        refused(CAST, Edges::busy, x -> x.item(0, 0, -1, 0));
        refused(CAST, Edges::busy, x -> x.copy(0, 0, 1, 0, -1));
        refused(CAST, Edges::busy, x -> x.copy(2, 0, 1, 0, 24));
    }

    @Sentence(promise = 0, words = "What is refused changes nothing, but as told.")
    static void onlyTheTapeOfAFaultIsLost() {
        BlindBuff x = busy();
        due(x.city(), -30);
        BlindBuff y = busy();
        // a city is read in between, and all but the tape is put back
        y.image();
        y.type('0');
        due(y.city(), 1);
        y.restore();
        same(y, all(x));
        due(x.type('a'), 1);
        due(y.type('a'), 1);
    }

    @Sentence(promise = 0, words = "Sets are bits.")
    static void theFirstAndTheLastOfASet() {
        BlindBuff x = of("2x2@00;p110f,p110a,p110,p110,p110,p000abcdef");
        due(x.of(0, 3), 32);
        due(x.of(1, 3), 1);
        due(x.of(5, 3), 63);
        due(x.minutes(1), 32);
        x.walk(0, 0);
        x.walk(0, 2);
        due(x.minutes(1), 33);
    }

    @Sentence(promise = 0, words = "What is divided is cut.")
    static void halvesAreCut() {
        BlindBuff x = of("2x2@00;s000,s001,s002,s003,s008,s009");
        int[] loud = {0, 0, 1, 1, 4, 4};
        for (int p = 0; p < 6; p++) {
            due(x.of(p, 7), loud[p]);
        }
    }

    // ---- 1 the city

    @Sentence(promise = 0, words = "ROWS, COLUMNS (2 .. 6 each; 4 and 5 at first)")
    static void rowsAndColumns() {
        BlindBuff x = new BlindBuff();
        due(x.count(0), 4);
        due(x.count(1), 5);
        for (int n = 2; n <= 6; n++) {
            due(x.streets(n, 8 - n), n * (8 - n));
            due(x.count(0), n);
            due(x.count(1), 8 - n);
        }
        for (int n : beyond(2, 6)) {
            due(x.streets(n, 4), BAD);
            due(x.streets(4, n), BAD);
        }
        due(x.count(0), 6);
        due(x.count(1), 2);
    }

    @Sentence(promise = 0, words = "numbered along ROWS from 0 on")
    static void theFirstAndTheLastCell() {
        BlindBuff x = of("3x5@24;p000,p040,p100,p240");
        int[] cells = {0, 4, 5, 14};
        int[] far = {6, 2, 5, 0};
        due(x.count(3), 14);
        for (int p = 0; p < 4; p++) {
            due(x.of(p, 1), cells[p]);
            due(x.of(p, 6), far[p]);
        }
    }

    @Sentence(promise = 0, words = "THE CONSTABLE is on CELL 0 at first.")
    static void heIsOnCellNought() {
        BlindBuff x = new BlindBuff();
        due(x.count(3), 0);
        due(x.person(0, 0, 0, 0), 0);
        due(x.of(0, 6), 0);
        due(x.minutes(1), 1);
    }

    @Sentence(promise = 0, words = "PEOPLE 0 .. 5, as they come")
    static void theFirstAndTheLastOfThePeople() {
        BlindBuff x = new BlindBuff();
        due(x.of(0, 0), BAD);
        for (int p = 0; p < 6; p++) {
            due(x.of(p, 0), BAD);
            due(x.person(p % 5, p, p, p), p);
            due(x.of(p, 0), p % 5);
            due(x.of(p, 1), p);
            due(x.of(p, 2), p);
            due(x.of(p, 3), p);
            due(x.of(p + 1, 0), BAD);
        }
        due(x.person(0, 0, 0, 0), FULL);
    }

    @Sentence(promise = 0, words = "of NOISE 0 .. 9")
    static void theLeastAndTheMostNoise() {
        BlindBuff x = new BlindBuff();
        due(x.person(0, 0, -1, 0), BAD);
        due(x.person(0, 0, 10, 0), BAD);
        due(x.person(0, 0, 0, 0), 0);
        due(x.person(0, 0, 9, 0), 1);
        due(x.of(0, 7), 0);
        due(x.of(1, 7), 9);
    }

    @Sentence(promise = 0, words = "a LOOK is a set of FEATURES 0 .. 5, so is a DISGUISE (none at first)")
    static void noFeatureAndAllOfThem() {
        BlindBuff x = new BlindBuff();
        due(x.person(0, 0, 0, 64), BAD);
        due(x.person(0, 0, 0, -1), BAD);
        due(x.person(0, 0, 0, 0), 0);
        due(x.person(0, 0, 0, 63), 1);
        for (int p = 0; p < 2; p++) {
            due(x.of(p, 3), 63 * p);
            due(x.of(p, 4), 0);
            due(x.rule(p, 1, 64), BAD);
            due(x.rule(p, 1, -1), BAD);
            due(x.rule(p, 1, 63), 0);
            due(x.of(p, 4), 63);
        }
    }

    @Sentence(promise = 0, words = "it FEELS as LOOK, but those of the DISGUISE the other way round")
    static void wholeDisguisesTurnAllRound() {
        BlindBuff x = of("2x2@00;p000,p000abcdef");
        due(x.of(0, 8), 0);
        due(x.of(1, 8), 1);
        x.rule(0, 1, 63);
        x.rule(1, 1, 63);
        due(x.of(0, 8), 1);
        due(x.of(1, 8), 0);
    }

    @Sentence(promise = 0, words = "Each is FREE (at first) or CAUGHT.")
    static void allAreFreeAtFirst() {
        BlindBuff x = crowded();
        due(x.count(5), 3);
        x.streets(2, 3);
        for (int p = 0; p < 6; p++) {
            x.person(0, 0, 0, 0);
            due(x.of(p, 5), 0);
        }
        due(x.count(5), 0);
        BlindBuff y = crowded();
        typed(y, "2x3@00;p000,p000");
        due(y.count(5), 0);
    }

    @Sentence(promise = 0, words = "It is MINUTE 0 at first; RIGHT, WRONG are 0.")
    static void theFirstMinute() {
        BlindBuff x = new BlindBuff();
        due(x.count(4), 0);
        due(x.count(6), 0);
        due(x.count(7), 0);
        due(x.ahead(0, 2), 0);
        due(x.ahead(0, 3), 0);
    }

    // ---- how loud one is

    @Sentence(promise = 0, words = "FAR are two CELLS by as many ROWS and COLUMNS as are between them, added.")
    static void onOneCellAndFromCornerToCorner() {
        String[] corners = {"00", "05", "50", "55"};
        int[][] far = {{0, 5, 5, 10}, {5, 0, 10, 5}, {5, 10, 0, 5}, {10, 5, 5, 0}};
        for (int he = 0; he < 4; he++) {
            BlindBuff x = of("6x6@" + corners[he] + ";p000,p050,p500,p550");
            for (int p = 0; p < 4; p++) {
                due(x.of(p, 6), far[he][p]);
            }
        }
        // the end of a ROW and the beginning of the next are neighbours by number alone
        due(of("2x6@05;p100").of(0, 6), 6);
    }

    @Sentence(promise = 0, words = "NOISE less how FAR it is (0 at least)")
    static void neverBelowNought() {
        BlindBuff x = of("6x6@00;p550,p559,p459,p449,p009,p120");
        // FAR by 10, 10, 9, 8, 0, 3
        int[] loud = {0, 0, 0, 1, 9, 0};
        for (int p = 0; p < 6; p++) {
            due(x.of(p, 7), loud[p]);
        }
    }

    @Sentence(promise = 0, words = "1 SOFT: half as LOUD (cut)")
    static void aSoftOneOfOneIsNotHeard() {
        BlindBuff x = of("2x6@00;s012,s013,s014,s015,s050,s059");
        int[] loud = {0, 1, 1, 2, 0, 2};
        for (int p = 0; p < 6; p++) {
            due(x.of(p, 7), loud[p]);
        }
        due(of("2x2@00;s012").count(8), NONE);
        due(of("2x2@00;s013").count(8), 0);
    }

    @Sentence(promise = 0, words = "2 BELLED (below PLAIN): 4 more.")
    static void aBelledOneIsAlwaysHeard() {
        BlindBuff x = of("6x6@00;b550,b559,b009,b000,b011,b012");
        int[] loud = {4, 4, 13, 4, 4, 5};
        for (int p = 0; p < 6; p++) {
            due(x.of(p, 7), loud[p]);
        }
    }

    @Sentence(promise = 0, words = "not at all in MINUTES of an even number (0, too)")
    static void aBreathlessOneInTheFirstMinutes() {
        BlindBuff x = of("2x2@00;h008,h009");
        for (int minute = 0; minute < 6; minute++) {
            due(x.of(0, 7), minute % 2 == 0 ? 0 : 4);
            due(x.of(1, 7), minute % 2 == 0 ? 0 : 4);
            x.minutes(1);
        }
    }

    @Sentence(promise = 0, words = "not at all in MINUTES of an even number (0, too)")
    static void aBreathlessOneInTheLastMinutes() {
        BlindBuff x = of("2x2@00;h009");
        passTo(x, 9998);
        due(x.of(0, 7), 0);
        x.minutes(1);
        due(x.of(0, 7), 4);
    }

    @Sentence(promise = 0, words = "twice as LOUD, if it is FAR by 2 or less")
    static void aLaugherTwoAndThreeCellsOff() {
        BlindBuff x = of("3x4@00;l009,l019,l029,l119,l039,l129");
        int[] far = {0, 1, 2, 2, 3, 3};
        int[] loud = {26, 24, 22, 22, 10, 10};
        for (int p = 0; p < 6; p++) {
            due(x.of(p, 6), far[p]);
            due(x.of(p, 7), loud[p]);
        }
        BlindBuff quiet = of("3x4@00;l020,l030");
        due(quiet.of(0, 7), 8);
        due(quiet.of(1, 7), 4);
    }

    // ---- a minute

    @Sentence(promise = 0, words = "is LOUDEST, above 0")
    static void whoIsNotLoudIsNotFollowed() {
        due(of("2x4@00;p022").count(8), NONE);
        due(of("2x4@00;p023").count(8), 0);
        BlindBuff x = of("2x4@00;p022");
        due(x.minutes(40), 0);
        due(x.count(3), 0);
    }

    @Sentence(promise = 0, words = "above 0, of like ones the first: 1 ROW nearer")
    static void ofLikeLoudOnesTheFirstIsFollowed() {
        due(of("2x4@01;p035,p105").count(8), 0);
        due(of("2x4@01;p105,p035").count(8), 0);
        due(of("2x4@01;p103,p034,p105").count(8), 2);
        BlindBuff x = of("2x3@01;p005,p025");
        due(x.minutes(1), 1);
        due(x.count(3), 0);
    }

    @Sentence(promise = 0, words = "1 ROW nearer; if it is the same ROW, 1 COLUMN nearer")
    static void rowsComeAheadOfColumns() {
        String[] texts = {"6x6@00;p559", "6x6@55;b009", "6x6@05;b509", "6x6@50;b059"};
        int[][] path = {{0}, {29, 23, 17, 11, 5, 4, 3, 2, 1, 0}, {11, 17, 23, 29, 35, 34, 33, 32, 31, 30},
            {24, 18, 12, 6, 0, 1, 2, 3, 4, 5}};
        for (int t = 0; t < texts.length; t++) {
            BlindBuff x = of(texts[t]);
            for (int m = 0; m < path[t].length; m++) {
                due(x.count(5), 0);
                x.minutes(1);
                due(x.count(3), path[t][m]);
            }
        }
    }

    @Sentence(promise = 0, words = "1 ROW nearer; if it is the same ROW, 1 COLUMN nearer")
    static void onTheSameCellHeIsNoNearer() {
        BlindBuff x = of("3x3@11;p119,p120,p100");
        due(x.minutes(1), 1);
        due(x.count(3), 4);
    }

    @Sentence(promise = 0, words = "nobody: he stays")
    static void withNobodyToFollowHeStays() {
        BlindBuff x = of("3x3@11;p110,p000");
        due(x.minutes(1), 1);
        due(x.minutes(40), 1);
        due(x.count(3), 4);
    }

    @Sentence(promise = 0, words = "Then the first of those who are FREE and on his CELL is CAUGHT, and NAMED")
    static void oneOfACrowdIsCaughtInAMinute() {
        BlindBuff x = of("2x2@00;p000,p000,p110,p000");
        int[] caught = {1, 3, 11, 11};
        for (int m = 0; m < caught.length; m++) {
            due(x.minutes(1), caught[m]);
            due(x.count(6) + x.count(7), Math.min(m + 1, 3));
        }
        // one who is CAUGHT already does not keep him from the next
        x.free(1);
        due(x.minutes(1), 11);
        due(x.count(6) + x.count(7), 4);
    }

    @Sentence(promise = 0, words = "is otherwise than what he FEELS by fewest FEATURES, of like ones the first")
    static void ofLikeFacesTheFirstIsNamed() {
        // a FEELS as far from a as from nothing, if it is told as neither: b and ab are one off from each
        BlindBuff x = of("2x2@00;p000,p000ab,p000ab");
        x.rule(0, 1, 1);
        due(x.of(0, 8), 0);
        x.rule(1, 1, 1);
        due(x.of(1, 8), 0);
        due(x.of(2, 8), 1);
        // CAUGHT ones are among those as whom one is NAMED
        due(x.minutes(3), 7);
        due(x.count(6), 1);
        due(x.count(7), 2);
        due(x.of(1, 8), 0);
    }

    @Sentence(promise = 0, words = "RIGHT is 1 more, if it is the one, else WRONG is")
    static void neitherIsMoreIfNobodyIsCaught() {
        BlindBuff x = of("2x2@00;p110");
        x.minutes(40);
        due(x.count(6) + x.count(7), 0);
        BlindBuff y = of("2x2@00;p000");
        y.minutes(40);
        due(y.count(6), 1);
        due(y.count(7), 0);
    }

    @Sentence(promise = 0, words = "one who is FREE goes to a CELL that is FAR by 1")
    static void thereIsNoWayRoundTheStreets() {
        BlindBuff x = of("3x3@00;p020,p100,p010,p210");
        // the CELL behind the end of a ROW is the first of the next
        due(x.walk(0, 3), NOT);
        due(x.walk(1, 2), NOT);
        due(x.walk(2, 0), NOT);
        due(x.walk(3, 1), NOT);
        due(x.count(9), 0);
    }

    @Sentence(promise = 0, words = "LET GO: one who is CAUGHT is FREE.")
    static void whoIsLetGoOnHisCellIsCaughtAgain() {
        BlindBuff x = of("2x2@00;p000");
        for (int times = 1; times <= 5; times++) {
            due(x.minutes(1), 1);
            due(x.count(6), times);
            due(x.free(0), 0);
        }
    }

    // ---- 2 foretold

    @Sentence(promise = 0, words = "behind n MINUTES (0 .. 60) where THE CONSTABLE is")
    static void behindNoneAndBehindSixtyMinutes() {
        BlindBuff x = of("6x6@50;b500,h549,b052,h119,b039,h507");
        due(x.ahead(0, 0), 30);
        due(x.ahead(0, 1), 0);
        due(x.ahead(60, 1), 31);
        due(x.ahead(61, 1), BAD);
        due(x.ahead(-1, 1), BAD);
        // the last one is CAUGHT behind 62 MINUTES
        x.minutes(1);
        due(x.ahead(60, 1), 31);
        x.minutes(1);
        due(x.ahead(59, 1), 31);
        due(x.ahead(60, 1), 63);
        due(x.ahead(60, 2) + x.ahead(60, 3), 6);
        due(x.count(4), 2);
    }

    @Sentence(promise = 0, words = "who is CAUGHT next in the next 60 MINUTES; behind how many; as whom NAMED; none")
    static void behindOneAndBehindManyMinutes() {
        BlindBuff one = of("2x2@00;p000");
        due(one.next(1), 1);
        BlindBuff many = of("6x6@05;h509,h308,h226,h453,h034,h108");
        due(many.next(0), 0);
        due(many.next(1), 20);
        BlindBuff none = of("6x6@00;h559,p550,s551");
        for (int what = 0; what < 3; what++) {
            due(none.next(what), NONE);
        }
    }

    @Sentence(promise = 0, words = "CAUGHT latest in the next 60 MINUTES (never: 61), of like ones the first")
    static void neverIsSixtyOne() {
        BlindBuff x = of("3x3@11;p110");
        due(x.stand(0, 0), 0);
        due(x.stand(0, 1), 61);
        BlindBuff y = of("2x2@00;p000");
        due(y.stand(0, 0), 1);
        due(y.stand(0, 1), 61);
        // heard everywhere: of CELLS that are as good the first
        BlindBuff z = of("2x2@00;b000");
        due(z.stand(0, 0), 3);
        due(z.stand(0, 1), 2);
        BlindBuff w = of("3x3@11;b110");
        due(w.stand(0, 0), 0);
        due(w.stand(0, 1), 2);
    }

    @Sentence(promise = 0, words = "so that it is CAUGHT latest in the next 60 MINUTES")
    static void behindSixtyIsNotNeverBehindSixtyOneIs() {
        BlindBuff sixty = of("6x6@00;h248,l558,b000,h417,h559,h137");
        due(sixty.stand(5, 0), 9);
        due(sixty.stand(5, 1), 60);
        // on CELL 1 it is CAUGHT behind 60, on 31 never
        BlindBuff almost = of("6x6@32;h149,h559,h209,h057,h336,h016");
        due(almost.stand(5, 0), 31);
        due(almost.stand(5, 1), 61);
        // on CELL 1 it is CAUGHT behind 61
        BlindBuff beyond = of("6x6@42;h149,h558,h209,h057,h336,h026");
        beyond.minutes(1);
        due(beyond.stand(5, 0), 1);
        due(beyond.stand(5, 1), 61);
    }

    @Sentence(promise = 0, words = "HUSH for one who is FREE, n MINUTES (1 .. 60)")
    static void forOneAndForSixtyMinutes() {
        BlindBuff x = of("6x6@50;b500,h549,b052,h119,b039,h507");
        x.minutes(1);
        due(x.hush(5, 60), 0);
        x.minutes(1);
        due(x.hush(5, 59), 0);
        due(x.hush(5, 60), 1);
        due(x.hush(5, 61), BAD);
        due(x.hush(5, 0), BAD);
        BlindBuff y = of("2x3@00;p019");
        due(y.hush(0, 1), 8);
        due(of("2x3@00;p029").hush(0, 1), 0);
    }

    @Sentence(promise = 0, words = "by how much less NOISE at least (0 to all) it is not CAUGHT in them; none")
    static void fromNoneToAllOfItsNoise() {
        // beside him it is heard by NOISE 2, on the other side of the streets by 5; h is heard by its half
        due(of("2x2@00;p010").hush(0, 60), 0);
        due(of("2x2@00;p011").hush(0, 60), 0);
        due(of("2x2@00;p019").hush(0, 60), 8);
        // all of it: he goes on to the other one only if he hears nothing at his feet
        BlindBuff all = of("2x2@00;p009,p012");
        due(all.hush(0, 1), 9);
        due(of("2x2@00;p009").hush(0, 1), NONE);
        due(of("2x2@00;b010").hush(0, 1), NONE);
    }

    @Sentence(promise = 0, words = "of like ones the least set of these: how many; which; none")
    static void noFeatureAndTheMostFeatures() {
        // NAMED WRONG already
        BlindBuff twin = of("2x2@00;p000,p000");
        due(twin.mask(1, 0), 0);
        due(twin.mask(1, 1), 0);
        due(twin.mask(0, 0), NONE);
        due(twin.mask(0, 1), NONE);
        // as unlike as can be: behind the half, of like ones the first is NAMED
        BlindBuff far = of("2x2@00;p000abcdef,p000");
        due(far.mask(0, 0), 4);
        due(far.mask(0, 1), 15);
        due(far.mask(1, 0), 3);
        due(far.mask(1, 1), 7);
        // of two that would do, the less
        BlindBuff two = of("2x2@00;p000f,p000e,p000");
        due(two.mask(2, 0), 1);
        due(two.mask(2, 1), 16);
    }

    @Sentence(promise = 0, words = "ALIKE by k (0 .. 6): pairs (i below j)")
    static void byNoFeatureAndByAll() {
        BlindBuff x = of("2x2@00;p000,p000abcdef,p000abcdef");
        due(x.alike(0, 0), 1);
        due(x.alike(0, 1), 12);
        due(x.alike(5, 0), 1);
        due(x.alike(6, 0), 3);
        due(x.alike(6, 1), 1);
        due(x.alike(7, 0), BAD);
        due(x.alike(-1, 0), BAD);
        // 15 pairs of six, the last of them 4 and 5
        BlindBuff six = of("2x2@00;p000a,p000b,p000c,p000d,p000,p000");
        due(six.alike(6, 0), 15);
        due(six.alike(0, 0), 1);
        due(six.alike(0, 1), 45);
    }

    @Sentence(promise = 0, words = "whose LOOKS are otherwise by k FEATURES at most")
    static void byJustSoManyFeatures() {
        BlindBuff x = of("2x2@00;p000ab,p000cde");
        due(x.alike(4, 0), 0);
        due(x.alike(4, 1), NONE);
        due(x.alike(5, 0), 1);
        due(x.alike(5, 1), 1);
    }

    @Sentence(promise = 0, words = "so that this one is CAUGHT NEXT: how many; the first; none")
    static void fromNoCellAndFromAllOfThem() {
        BlindBuff x = of("6x6@00;b000,b000");
        due(x.turned(0, 0), 36);
        due(x.turned(0, 1), 0);
        due(x.turned(1, 0), 0);
        due(x.turned(1, 1), NONE);
        BlindBuff last = of("6x6@00;p550");
        due(last.turned(0, 0), 1);
        due(last.turned(0, 1), 35);
    }

    @Sentence(promise = 0, words = "LUCK by c of 10 (0 .. 10): each who is FREE holds its breath")
    static void nobodyAndEverybodyHoldsItsBreath() {
        BlindBuff x = of("2x2@00;p009,p008");
        int[][] due = {{0, 0, 1, 1}, {1, 0, 0, 1}, {0, 10, 0, 1}, {1, 10, 0, 1}, {0, 1, 9, 10}, {1, 1, 9, 100},
            {0, 9, 1, 10}, {1, 9, 9, 100}};
        for (int[] d : due) {
            due(x.luck(d[0], d[1], 0), d[2]);
            due(x.luck(d[0], d[1], 1), d[3]);
        }
        due(x.luck(0, 11, 0), BAD);
        due(x.luck(0, -1, 0), BAD);
    }

    @Sentence(promise = 0, words = "how likely he follows a told one: a fraction in lowest terms")
    static void noLuckAndTheLeastOfSix() {
        BlindBuff six = of("2x2@00;p009,p009,p009,p009,p009,p009");
        int[][] due = {{5, 1, 9, 1000000}, {5, 2, 4, 15625}, {5, 5, 1, 64}, {5, 9, 59049, 1000000}, {0, 5, 1, 2}};
        for (int[] d : due) {
            due(six.luck(d[0], d[1], 0), d[2]);
            due(six.luck(d[0], d[1], 1), d[3]);
        }
        // not LOUD, or CAUGHT: it is not followed, and is in nobody's way
        BlindBuff x = of("2x2@00;p002,p110,p013");
        due(x.luck(1, 0, 0), 0);
        due(x.luck(1, 0, 1), 1);
        x.minutes(1);
        due(x.count(5), 1);
        due(x.luck(0, 0, 0), 0);
        due(x.luck(0, 0, 1), 1);
        due(x.luck(2, 5, 0), 1);
        due(x.luck(2, 5, 1), 2);
    }

    // ---- 3 seen, undone, drift

    @Sentence(promise = 0, words = "behind each of the next n MINUTES (1 .. 8): the CELLS on which he might be now")
    static void oneAndEightMinutesAreSeen() {
        BlindBuff x = of("2x6@00;b059");
        x.sheet(0, 0, 9);
        x.film(9, 0, 0, 0);
        due(x.seen(0, 0, 0, 0, 0), BAD);
        due(x.seen(0, 0, 0, 9, 0), BAD);
        due(x.seen(0, 0, 0, 1, 0), 2);
        due(x.seen(0, 0, 0, 8, 0), 2);
        due(x.seen(0, 0, 1, 8, 1), 1);
        // the last of the eight counts, too
        x.item(0, 0, 7, 4);
        due(x.seen(0, 0, 0, 7, 0), 2);
        due(x.seen(0, 0, 0, 8, 0), 0);
        due(x.seen(0, 0, 0, 8, 1), NONE);
    }

    @Sentence(promise = 0, words = "(8 are known, older ones lost)")
    static void theNinthIsLost() {
        BlindBuff x = of("3x3@00;p220");
        x.walk(0, 0);
        for (int n = 1; n <= 7; n++) {
            x.minutes(1);
        }
        due(x.count(9), 8);
        for (int left = 7; left >= 0; left--) {
            due(x.undo(), left);
        }
        due(x.of(0, 1), 8);
        // one more, and the walk is past recall
        x.walk(0, 0);
        x.minutes(8);
        for (int left = 7; left >= 0; left--) {
            due(x.undo(), left);
        }
        due(x.undo(), NONE);
        due(x.of(0, 1), 5);
        due(x.count(4), 0);
        // what was UNDONE makes room
        x.minutes(3);
        due(x.count(9), 3);
    }

    @Sentence(promise = 0, words = "the latest MINUTE, WALKED, LET GO is as it had not been")
    static void oneStepForEachOfManyMinutes() {
        BlindBuff x = of("2x6@00;p059");
        x.minutes(5);
        x.free(0);
        x.walk(0, 1);
        due(x.count(9), 7);
        due(x.undo(), 6);
        due(x.of(0, 1), 5);
        due(x.undo(), 5);
        due(x.count(5), 1);
        for (int left = 4; left >= 0; left--) {
            due(x.undo(), left);
            due(x.count(5), 0);
            due(x.count(3), left);
            due(x.count(4), left);
            due(x.count(6), 0);
        }
    }

    @Sentence(promise = 0, words = "THE DRAW are as ahead of it, whatever was told since")
    static void theDrawComesBackOverASeed() {
        BlindBuff x = of("3x3@00;p220");
        x.seed(HIGH);
        x.drift(1);
        x.seed(0);
        x.rule(0, 0, 9);
        x.rule(0, 1, 63);
        due(x.undo(), 0);
        due(x.seed(1), HIGH);
        due(x.of(0, 1), 8);
        // NOISE and DISGUISE are not among what comes back
        due(x.of(0, 2), 9);
        due(x.of(0, 4), 63);
    }

    @Sentence(promise = 0, words = "a CITY, STREETS, a new PERSON leave nothing to be UNDONE")
    static void nothingIsLeftBehindThem() {
        BlindBuff city = busy();
        city.type('0');
        due(city.count(9), 3);
        due(city.city(), 1);
        due(city.count(9), 0);
        due(city.undo(), NONE);
        BlindBuff streets = busy();
        due(streets.streets(4, 5), 20);
        due(streets.undo(), NONE);
        BlindBuff person = busy();
        due(person.person(0, 0, 0, 0), 5);
        due(person.count(9), 0);
        due(person.undo(), NONE);
    }

    @Sentence(promise = 0, words = "THE DRAW is a number of 31 bits (1 at first)")
    static void theLeastAndTheHighestDraw() {
        BlindBuff x = of("2x2@00;p110");
        due(x.seed(HIGH), 1);
        for (int n = 0; n < 40; n++) {
            x.drift(1);
            int draw = x.seed(0);
            holds(draw >= 0, "a draw is never below 0");
            x.seed(draw);
        }
    }

    @Sentence(promise = 0, words = "it becomes the lowest 31 bits of itself times 1103515245 and 12345 more")
    static void theDrawWrapsAround() {
        BlindBuff x = of("2x2@00;p110");
        int[] seeds = {0, 1, 2, HIGH, HIGH - 1, 1 << 30, 65535, 65536, 123456789};
        for (int seed : seeds) {
            x.seed(seed);
            x.drift(1);
            long due = ((long) seed * 1103515245L + 12345L) % (1L << 31);
            due(x.seed(0), due);
        }
        // and twice in one call
        x.seed(HIGH);
        x.drift(2);
        due(x.seed(0), drawBehind(drawBehind(HIGH)));
    }

    private static long drawBehind(long draw) {
        return (draw * 1103515245L + 12345L) % (1L << 31);
    }

    @Sentence(promise = 0, words = "left over by how many there are, if FREE, goes 1 CELL on")
    static void eachOfOneToSixIsDrawn() {
        for (int people = 1; people <= 6; people++) {
            BlindBuff x = new BlindBuff();
            x.streets(6, 6);
            for (int p = 0; p < people; p++) {
                x.person(0, 21, 0, 0);
            }
            long draw = 1;
            int[] row = {3, 3, 3, 3, 3, 3};
            int[] column = {3, 3, 3, 3, 3, 3};
            for (int n = 0; n < 24; n++) {
                draw = drawBehind(draw);
                x.drift(1);
                int who = (int) (draw / 65536 % people);
                int way = (int) (draw / 128 % 4);
                row[who] += way == 0 && row[who] > 0 ? -1 : way == 1 && row[who] < 5 ? 1 : 0;
                column[who] += way == 2 && column[who] > 0 ? -1 : way == 3 && column[who] < 5 ? 1 : 0;
                if (x.of(who, 5) == 0) {
                    due(x.of(who, 1), row[who] * 6 + column[who]);
                }
            }
        }
    }

    /** A draw behind which person 0 is told to go this way. */
    private static int seedOf(int way) {
        for (int seed = 0; seed < 100000; seed++) {
            if (drawBehind(seed) / 128 % 4 == way) {
                return seed;
            }
        }
        return BAD;
    }

    @Sentence(promise = 0, words = "goes 1 CELL on: up, down, to the left, to the right (0 .. 3)")
    static void eachWayIsDrawn() {
        int[] there = {1, 7, 3, 5};
        for (int way = 0; way < 4; way++) {
            BlindBuff x = of("3x3@00;p110");
            x.seed(seedOf(way));
            due(x.drift(1), 0);
            due(x.of(0, 1), there[way]);
        }
    }

    @Sentence(promise = 0, words = "if there is such a CELL")
    static void noDriftLeavesTheStreets() {
        // he is where nobody is heard; each corner, and the ways out of it
        String[] corners = {"3x3@11;p000", "3x3@11;p020", "3x3@11;p200", "3x3@11;p220"};
        int[] cells = {0, 2, 6, 8};
        int[][] out = {{0, 2}, {0, 3}, {1, 2}, {1, 3}};
        for (int c = 0; c < 4; c++) {
            for (int way : out[c]) {
                BlindBuff x = of(corners[c]);
                x.seed(seedOf(way));
                due(x.drift(1), 0);
                due(x.of(0, 1), cells[c]);
                // the MINUTE and THE DRAW go on all the same
                due(x.count(4), 1);
                due(x.seed(1), drawBehind(seedOf(way)));
                due(x.undo(), 0);
            }
        }
    }

    @Sentence(promise = 0, words = "left over by how many there are, if FREE")
    static void aCaughtOneDoesNotDrift() {
        for (int way = 0; way < 4; way++) {
            BlindBuff x = of("3x3@11;p110");
            due(x.minutes(1), 1);
            x.seed(seedOf(way));
            due(x.drift(1), 1);
            due(x.of(0, 1), 4);
            due(x.seed(1), drawBehind(seedOf(way)));
        }
    }

    // ---- a city as a text

    private static void reads(String text, int want) {
        BlindBuff x = new BlindBuff();
        due(typed(x, text), want);
        due(x.count(2), Math.max(want, 0));
    }

    @Sentence(promise = 0, words = "A CITY is a TEXT: a digit 2 .. 6 (ROWS), x, a digit 2 .. 6 (COLUMNS)")
    static void theStreetsOfAText() {
        reads("2x6@00;p150", 1);
        reads("6x2@00;p510", 1);
        reads("1x2@00;p000", -20);
        reads("7x2@00;p000", -20);
        reads("2y2@00;p000", -21);
        reads("22@00;p000", -21);
        reads("2x1@00;p000", -22);
        reads("2x7@00;p000", -22);
        reads("2xx@00;p000", -22);
        // what comes behind the streets can't stand in place of them
        reads(";p000", -20);
        reads("2;p000", -21);
        reads("2x;p000", -22);
    }

    @Sentence(promise = 0, words = "then @ and two digits (THE CONSTABLE's ROW, COLUMN, as there are)")
    static void theConstableOfAText() {
        reads("2x6@15;p000", 1);
        reads("6x2@51;p000", 1);
        reads("2x6#15;p000", -23);
        reads("2x6@25;p000", -24);
        reads("2x6@16;p000", -25);
        reads("6x2@61;p000", -24);
        reads("6x2@52;p000", -25);
        reads("2x2;p000", -23);
        reads("2x2@;p000", -24);
        reads("2x2@0;p000", -25);
        // the signs beside the digits
        reads("2x2@/0;p000", -24);
        reads("2x2@0/;p000", -25);
        reads("2x2@:0;p000", -24);
    }

    @Sentence(promise = 0, words = "then ; and 1 to 6 PEOPLE with , between")
    static void fromOneToSixInAText() {
        StringBuilder text = new StringBuilder("2x2@00");
        reads(text.toString(), -26);
        reads(text + ";", -27);
        for (int people = 1; people <= 6; people++) {
            text.append(people == 1 ? ';' : ',').append("p000");
            reads(text.toString(), people);
            reads(text + ",", -20 - text.length() - (people < 6 ? 1 : 0));
            reads(text + ";", -20 - text.length());
        }
        reads(text + ",p000", -56);
        reads("2x2@00;,p000", -27);
        reads("2x2@00;p000,,p000", -32);
        reads("2x2@00;p000p000", -31);
    }

    @Sentence(promise = 0, words = "p s b h l (KINDS in this order), two digits (ROW, COLUMN), a digit (NOISE)")
    static void aPersonOfAText() {
        BlindBuff x = of("2x3@00;p000,s129,b120,h009,l110");
        for (int kind = 0; kind < 5; kind++) {
            due(x.of(kind, 0), kind);
        }
        due(x.of(1, 1), 5);
        due(x.of(1, 2), 9);
        due(x.of(2, 2), 0);
        reads("2x3@00;P000", -27);
        reads("2x3@00;a000", -27);
        reads("2x3@00;000", -27);
        reads("2x3@00;p200", -28);
        reads("2x3@00;p030", -29);
        reads("2x3@00;p00a", -30);
        // the signs beside the digits
        reads("2x3@00;p/00", -28);
        reads("2x3@00;p0/0", -29);
        reads("2x3@00;p00/", -30);
        reads("2x3@00;p00:", -30);
        reads("2x3@00;p00", -30);
        reads("2x3@00;p0010", -31);
    }

    @Sentence(promise = 0, words = "then any of a .. f, rising (FEATURES 0 .. 5 of the LOOK)")
    static void theFaceOfAText() {
        String[] faces = {"", "a", "f", "af", "abcdef", "bd"};
        int[] looks = {0, 1, 32, 33, 63, 10};
        for (int i = 0; i < faces.length; i++) {
            due(of("2x2@00;p000" + faces[i]).of(0, 3), looks[i]);
        }
        reads("2x2@00;p000g", -31);
        reads("2x2@00;p000`", -31);
        reads("2x2@00;p000aa", -32);
        reads("2x2@00;p000ff", -32);
        reads("2x2@00;p000ba", -32);
        reads("2x2@00;p000fa", -32);
        reads("2x2@00;p000abcdefa", -37);
        reads("2x2@00;p000A", -31);
    }

    @Sentence(promise = 0, words = "in place of all STREETS, PEOPLE; MINUTE, RIGHT, WRONG 0 (THE DRAW stays)")
    static void aTextIsInPlaceOfAll() {
        BlindBuff x = crowded();
        x.seed(HIGH);
        due(x.count(6) + x.count(7), 2);
        due(typed(x, "6x2@51;l510f"), 1);
        int[] counts = {6, 2, 1, 11, 0, 0, 0, 0, 0, 0};
        for (int what = 0; what < counts.length; what++) {
            due(x.count(what), counts[what]);
        }
        due(x.of(0, 4), 0);
        due(x.of(1, 0), BAD);
        due(x.seed(1), HIGH);
    }

    @Sentence(promise = 0, words = "FAULTS: -20 less the place of the first letter (behind blanks) that can't stand there")
    static void aFaultBehindBlanks() {
        reads("1", -20);
        reads(" 1", -21);
        reads("   1", -23);
        reads("2 x  7", -25);
        reads("2x2@00;p000a  a", -34);
        // the first of several faults
        reads("2x9@99;q", -22);
        reads(" ".repeat(89) + "x", -109);
    }

    @Sentence(promise = 0, words = "(the end: how many there are)")
    static void theEndIsAFault() {
        String text = "2x3@12;p120";
        for (int n = 0; n < text.length(); n++) {
            reads(text.substring(0, n), -20 - n);
            reads(text.substring(0, n) + "  ", -22 - n);
        }
        reads(text, 1);
        reads(" ".repeat(90), -110);
    }

    @Sentence(promise = 0, words = "blanks count for nothing")
    static void blanksAnywhere() {
        String text = "2x3@12;h129af,b005";
        for (int n = 0; n <= text.length(); n++) {
            BlindBuff x = new BlindBuff();
            due(typed(x, text.substring(0, n) + "   " + text.substring(n)), 2);
            same(x, all(of(text)));
        }
        // a tilde is no blank
        reads("~2x2@00;p000", -20);
    }

    // ---- sheets

    @Sentence(promise = 0, words = "sheets 0 .. 3: nothing (at first)")
    static void theFirstAndTheLastSheet() {
        BlindBuff x = new BlindBuff();
        for (int s = 0; s < 4; s++) {
            due(x.drop(s), NULL);
            due(x.item(s, 0, 0, 0), NULL);
            due(x.film(1, s, 0, 0), NULL);
            due(x.seen(s, 0, 0, 1, 0), NULL);
            due(x.copy(s, 0, s, 0, 0), NULL);
            due(x.sheet(s, s, s), s);
        }
        for (int s = 0; s < 4; s++) {
            due(x.drop(s), s);
        }
        for (int s : beyond(0, 3)) {
            due(x.sheet(s, 0, 1), BAD);
        }
    }

    @Sentence(promise = 0, words = "a row of a LANE: 0 bytes, 1 shorts, 2 ints, 3 longs, of 0 to 24 items")
    static void noItemsAndAllOfThem() {
        BlindBuff x = new BlindBuff();
        for (int lane = 0; lane < 4; lane++) {
            due(x.sheet(0, lane, 0), 0);
            due(x.item(0, lane, 0, 1), INDEX);
            due(x.copy(0, 0, 0, 0, 0), 0);
            due(x.sheet(0, lane, 24), 24);
            due(x.item(0, lane, 0, 1), 1);
            due(x.item(0, lane, 23, 1), 1);
            due(x.item(0, lane, 24, 1), INDEX);
            due(x.copy(0, 0, 0, 0, 24), 24);
            due(x.sheet(0, lane, 25), BAD);
            due(x.sheet(0, lane, -1), SIZE);
            due(x.drop(0), 24);
        }
    }

    public static void main(String[] args) throws Exception {
        runEdges(TermBoundariesTest.class, 0, 0);
    }
}
