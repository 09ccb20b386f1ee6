/** For each promise, which is quoted whole: ordinary inputs, the edges that it names, and wrong inputs. */
public final class PromisesTest extends Quotes {
    @Sentence(promise = 1, words = "Streets, nobody.")
    static void aNewObject() {
        BlindBuff x = new BlindBuff();
        int[] first = {4, 5, 0, 0, 0, 0, 0, 0, NONE, 0};
        for (int what = 0; what < first.length; what++) {
            due(x.count(what), first[what]);
        }
        due(x.seed(1), 1);
        due(x.restore(), NONE);
        due(x.undo(), NONE);
        due(x.city(), -20);
        for (int s = 0; s < 4; s++) {
            due(x.drop(s), NULL);
        }
        due(x.person(0, 20, 0, 0), BAD);
        due(x.person(0, 19, 0, 0), 0);
    }

    @Sentence(promise = 2, words =
            "STREETS of so many ROWS, COLUMNS, no PEOPLE, THE CONSTABLE on CELL 0, MINUTE, RIGHT, WRONG 0: how "
            + "many CELLS. BAD.")
    static void streets() {
        BlindBuff x = of("3x4@12;p009a");
        x.minutes(2);
        x.seed(77);
        String was = all(x);
        int[][] bad = {{1, 2}, {7, 2}, {2, 1}, {2, 7}, {0, 0}, {-3, 3}, {LOW, 3}, {3, LOW}, {HIGH, 3}, {3, HIGH}};
        for (int[] pair : bad) {
            due(x.streets(pair[0], pair[1]), BAD);
        }
        same(x, was);
        x.minutes(1);
        due(x.count(5), 1);
        due(x.count(6), 1);
        due(x.streets(3, 5), 15);
        int[] fresh = {3, 5, 0, 0, 0, 0, 0, 0, NONE, 0};
        for (int what = 0; what < fresh.length; what++) {
            due(x.count(what), fresh[what]);
        }
        due(x.undo(), NONE);
        due(x.seed(77), 77);
        due(x.streets(2, 2), 4);
        due(x.streets(6, 6), 36);
        due(x.streets(2, 6), 12);
        due(x.count(0), 2);
        due(x.count(1), 6);
        due(x.person(0, 11, 3, 0), 0);
        due(x.person(0, 12, 3, 0), BAD);
        // whoever was CAUGHT there is nobody here
        due(x.of(0, 5), 0);
        // he is back on CELL 0, and nobody has been NAMED
        BlindBuff y = of("3x4@12;p120a,p120a");
        due(y.minutes(2), 3);
        due(y.count(3), 6);
        due(y.count(6), 1);
        due(y.count(7), 1);
        due(y.streets(3, 4), 12);
        due(y.count(3), 0);
        due(y.count(6), 0);
        due(y.count(7), 0);
    }

    @Sentence(promise = 3, words = "A PERSON: its number. BAD; FULL: 6.")
    static void person() {
        BlindBuff x = new BlindBuff();
        int[][] bad = {{-1, 0, 0, 0}, {5, 0, 0, 0}, {0, -1, 0, 0}, {0, 20, 0, 0}, {0, 0, -1, 0}, {0, 0, 10, 0},
            {0, 0, 0, -1}, {0, 0, 0, 64}, {LOW, 0, 0, 0}, {0, LOW, 0, 0}, {0, 0, HIGH, 0}, {0, 0, 0, HIGH}};
        for (int[] a : bad) {
            due(x.person(a[0], a[1], a[2], a[3]), BAD);
        }
        due(x.count(2), 0);
        due(x.person(4, 19, 9, 63), 0);
        int[] told = {4, 19, 9, 63, 0, 0};
        for (int what = 0; what < told.length; what++) {
            due(x.of(0, what), told[what]);
        }
        x.rule(0, 1, 5);
        x.minutes(3);
        due(x.count(9), 3);
        due(x.person(-1, 0, 0, 0), BAD);
        due(x.count(9), 3);
        due(x.person(0, 0, 0, 0), 1);
        due(x.count(9), 0);
        due(x.count(4), 3);
        due(x.of(0, 4), 5);
        for (int p = 2; p < 6; p++) {
            due(x.person(p - 1, p, p, p), p);
        }
        x.minutes(1);
        due(x.person(0, 0, 0, 0), FULL);
        due(x.person(0, 0, 0, 64), BAD);
        due(x.count(2), 6);
        due(x.count(9), 1);
        // a number that is used again has no old DISGUISE
        x.streets(4, 5);
        x.person(0, 0, 0, 0);
        due(x.of(0, 4), 0);
    }

    @Sentence(promise = 4, words =
            "Of a PERSON: 0 KIND, 1 CELL, 2 NOISE, 3 LOOK, 4 DISGUISE, 5 whether CAUGHT (1, 0), 6 how FAR, 7 "
            + "how LOUD to THE CONSTABLE now (CAUGHT or not), 8 as whom it would be NAMED. BAD.")
    static void ofAPerson() {
        BlindBuff x = of("6x6@00;p129,p052,s128bd,b052,h409,l203");
        int[][] due = {
            // kind, cell, noise, look, disguise, caught, far, loud, named
            {0, 8, 9, 0, 0, 0, 3, 6, 0},
            {0, 5, 2, 0, 0, 0, 5, 0, 0},
            {1, 8, 8, 10, 0, 0, 3, 2, 2},
            {2, 5, 2, 0, 0, 0, 5, 4, 0},
            {3, 24, 9, 0, 0, 0, 4, 0, 0},
            {4, 12, 3, 0, 0, 0, 2, 10, 0}};
        for (int p = 0; p < 6; p++) {
            for (int what = 0; what < 9; what++) {
                due(x.of(p, what), due[p][what]);
            }
        }
        due(x.of(-1, 0), BAD);
        due(x.of(6, 0), BAD);
        due(x.of(LOW, 0), BAD);
        due(x.of(HIGH, 0), BAD);
        due(x.of(0, -1), BAD);
        due(x.of(0, 9), BAD);
        due(x.of(0, LOW), BAD);
        due(x.of(0, HIGH), BAD);

        BlindBuff h = of("6x6@00;h409");
        due(h.of(0, 7), 0);
        h.minutes(1);
        due(h.of(0, 7), 2);
        h.minutes(1);
        due(h.of(0, 6), 3);
        due(h.of(0, 7), 0);

        BlindBuff l = of("6x6@00;l035,l023,l003");
        due(l.of(0, 7), 6);
        due(l.of(1, 7), 10);
        due(l.of(2, 7), 14);

        // CAUGHT or not, one is as LOUD; what FEELS as others is NAMED as the first of them
        BlindBuff c = of("2x2@00;p005a,p003ab,p110c");
        c.minutes(1);
        due(c.of(0, 5), 1);
        due(c.of(0, 7), 5);
        c.rule(0, 1, 2);
        due(c.of(0, 8), 1);
        c.rule(2, 1, 4);
        due(c.of(2, 8), 0);
        c.rule(1, 1, 2);
        due(c.of(1, 8), 0);
        c.rule(1, 1, 0);
        due(c.of(1, 8), 1);
    }

    @Sentence(promise = 5, words = "Of a PERSON: 0 NOISE (0 .. 9), 1 DISGUISE (a set) becomes v: what it was. BAD.")
    static void rule() {
        BlindBuff x = of("2x3@00;p125ab,s001");
        due(x.rule(0, 0, 9), 5);
        due(x.rule(0, 0, 0), 9);
        due(x.rule(0, 0, 4), 0);
        due(x.of(0, 2), 4);
        due(x.rule(1, 1, 63), 0);
        due(x.rule(1, 1, 0), 63);
        due(x.rule(1, 1, 17), 0);
        due(x.of(1, 4), 17);
        due(x.of(1, 3), 0);
        String was = all(x);
        int[][] bad = {{-1, 0, 1}, {2, 0, 1}, {0, -1, 1}, {0, 2, 1}, {0, 0, -1}, {0, 0, 10}, {0, 1, -1}, {0, 1, 64},
            {LOW, 0, 0}, {HIGH, 0, 0}, {0, LOW, 0}, {0, HIGH, 0}, {0, 0, LOW}, {0, 1, HIGH}};
        for (int[] a : bad) {
            due(x.rule(a[0], a[1], a[2]), BAD);
        }
        same(x, was);
        // CAUGHT ones, too
        due(x.rule(0, 0, 0), 4);
        x.minutes(1);
        due(x.count(5), 2);
        due(x.rule(1, 0, 7), 1);
        due(x.rule(1, 1, 1), 17);
    }

    @Sentence(promise = 6, words = "One letter more behind THE TAPE: how many it has. BAD: not 32 .. 126; FULL: 90.")
    static void type() {
        BlindBuff x = new BlindBuff();
        int[] bad = {31, 127, 0, -1, 10, 255, LOW, HIGH, 65536 + 50};
        for (int letter : bad) {
            due(x.type(letter), BAD);
        }
        due(x.type(32), 1);
        due(x.type(126), 2);
        for (int n = 3; n <= 90; n++) {
            due(x.type(n % 2 == 0 ? 'q' : ' '), n);
        }
        due(x.type('a'), FULL);
        due(x.type(31), BAD);
        due(x.city(), -21);
        due(x.type('a'), 1);
        x.streets(2, 2);
        due(x.type('a'), 2);
    }

    private static void cityOf(String text, int want) {
        BlindBuff x = new BlindBuff();
        x.person(1, 7, 3, 9);
        x.minutes(2);
        String was = all(x);
        due(typed(x, text), want);
        if (want < 0) {
            same(x, was);
        }
        due(x.type('a'), 1);
    }

    @Sentence(promise = 7, words =
            "THE TAPE, which is empty then, is a CITY: how many PEOPLE. A FAULT (all else stays).")
    static void city() {
        BlindBuff x = of("2x2@01;p009");
        x.minutes(1);
        x.rule(0, 1, 9);
        x.seed(5);
        due(x.count(5), 1);
        due(typed(x, "4x6@25;p002,s351abcdef,b043b,h009af,l316c"), 5);
        int[] counts = {4, 6, 5, 17, 0, 0, 0, 0};
        for (int what = 0; what < counts.length; what++) {
            due(x.count(what), counts[what]);
        }
        due(x.count(9), 0);
        due(x.seed(5), 5);
        int[][] people = {{0, 0, 2, 0}, {1, 23, 1, 63}, {2, 4, 3, 2}, {3, 0, 9, 33}, {4, 19, 6, 4}};
        for (int p = 0; p < people.length; p++) {
            for (int what = 0; what < 4; what++) {
                due(x.of(p, what), people[p][what]);
            }
            due(x.of(p, 4), 0);
            due(x.of(p, 5), 0);
        }
        cityOf("2x2@00;p000", 1);
        cityOf("6x6@55;p000,p010,p020,p030,p040,p550f", 6);
        cityOf("  2 x 2 @ 0 0 ; p 0 0 0 a f , s 1 1 9  ", 2);
        cityOf("", -20);
        cityOf("   ", -23);
        cityOf("  y", -22);
        cityOf("1x2@00;p000", -20);
        cityOf("7x2@00;p000", -20);
        cityOf("2X2@00;p000", -21);
        cityOf("2x1@00;p000", -22);
        cityOf("2x7@00;p000", -22);
        cityOf("2x2;p000", -23);
        cityOf("2x3@20;p000", -24);
        cityOf("2x3@03;p000", -25);
        cityOf("2x3@;p000", -24);
        cityOf("2x3@1;p000", -25);
        cityOf("2x3@12;p;000", -28);
        cityOf("2x3@12;p12", -30);
        cityOf("2x3@12,p120", -26);
        cityOf("2x3@12;", -27);
        cityOf("2x3@12;q120", -27);
        cityOf("2x3@12;p220", -28);
        cityOf("2x3@12;p130", -29);
        cityOf("2x3@12;p12a", -30);
        cityOf("2x3@12;p120ba", -32);
        cityOf("2x3@12;p120aa", -32);
        cityOf("2x3@12;p120g", -31);
        cityOf("2x3@12;p120ag", -32);
        cityOf("2x3@12;p120A", -31);
        cityOf("2x3@12;p1200", -31);
        cityOf("2x3@12;p120,", -32);
        cityOf("2x3@12;p120,  ", -34);
        cityOf("2x3@12;p120;", -31);
        cityOf("2x3@12;p120  b  a", -36);
        cityOf("2x2@00;p000,p000,p000,p000,p000,p000,p000", -56);
        cityOf("2x2@00;p000,p000,p000,p000,p000,p000 , p000", -57);
        cityOf("2x2@00;p000,p000,p000,p000,p000,p000a b f x", -62);
        // of an earlier TAPE no letter is left
        BlindBuff again = of("2x2@00;p009abc,s119");
        due(typed(again, "2x2@00;p009a"), 1);
        due(again.of(0, 3), 1);
        due(typed(again, "2x2@00;p009"), 1);
        due(again.of(0, 3), 0);
        due(typed(again, "2x2@00;p00"), -30);
        due(typed(again, "            "), -32);
        due(typed(again, "2x2"), -23);
        // nor of the people of an earlier CITY
        due(typed(again, "2x2@00;p009,p110"), 2);
        again.rule(0, 1, 3);
        again.minutes(1);
        due(typed(again, "2x2@11;p000"), 1);
        due(again.count(2), 1);
        due(again.count(5), 0);
        due(again.of(0, 4), 0);
        due(again.of(1, 0), BAD);
    }

    @Sentence(promise = 8, words =
            "0 ROWS, 1 COLUMNS, 2 PEOPLE, 3 THE CONSTABLE's CELL, 4 the MINUTE, 5 who is CAUGHT (a set), 6 "
            + "RIGHT, 7 WRONG, 8 whom he follows in this MINUTE (NONE), 9 what may be UNDONE. BAD.")
    static void count() {
        BlindBuff x = of("3x4@12;p035a,p005,s219");
        int[] first = {3, 4, 3, 6, 0, 0, 0, 0, 1, 0};
        // PLAIN 0 is LOUD by 5 - 2, PLAIN 1 by 5 - 3, SOFT 2 by (9 - 2) / 2: he follows the first of 3 and 3
        first[8] = 0;
        for (int what = 0; what < first.length; what++) {
            due(x.count(what), first[what]);
        }
        x.minutes(2);
        due(x.count(3), 3);
        due(x.count(4), 2);
        due(x.count(5), 1);
        due(x.count(6), 1);
        due(x.count(7), 0);
        due(x.count(9), 2);
        x.rule(1, 1, 1);
        due(x.count(8), 1);
        x.minutes(3);
        due(x.count(3), 0);
        due(x.count(5), 3);
        due(x.count(6), 1);
        due(x.count(7), 1);
        due(x.count(8), 2);
        x.rule(2, 0, 4);
        due(x.count(8), NONE);
        x.minutes(40);
        due(x.count(9), 8);
        due(x.count(-1), BAD);
        due(x.count(10), BAD);
        due(x.count(LOW), BAD);
        due(x.count(HIGH), BAD);
    }

    @Sentence(promise = 9, words =
            "n MINUTES (1 .. 40): who is CAUGHT then (a set). BAD; FULL: the MINUTE would be above 9999.")
    static void minutes() {
        // ROWS first, then COLUMNS, both ways
        BlindBuff x = of("4x4@03;p309");
        int[] path = {7, 11, 15, 14, 13, 12};
        for (int m = 0; m < path.length; m++) {
            due(x.minutes(1), m == 5 ? 1 : 0);
            due(x.count(3), path[m]);
            due(x.count(4), m + 1);
        }
        due(x.count(6), 1);
        BlindBuff up = of("4x4@30;p039");
        int[] back = {8, 4, 0, 1, 2, 3};
        for (int m = 0; m < back.length; m++) {
            due(up.minutes(1), m == 5 ? 1 : 0);
            due(up.count(3), back[m]);
        }
        // one in a MINUTE, the first; who is not heard is CAUGHT too, where he stands
        BlindBuff crowd = of("2x2@00;p000a,p000ab,p000ab");
        due(crowd.count(8), NONE);
        due(crowd.minutes(1), 1);
        due(crowd.minutes(1), 3);
        due(crowd.count(7), 0);
        due(crowd.minutes(1), 7);
        due(crowd.count(6), 2);
        due(crowd.count(7), 1);
        due(crowd.minutes(1), 7);
        due(crowd.count(6) + crowd.count(7), 3);
        // on his way he catches another one than whom he follows
        BlindBuff way = of("2x4@00;p039,p010");
        due(way.minutes(1), 2);
        due(way.minutes(2), 3);
        // of like LOUD ones the first; a CAUGHT one is not followed
        BlindBuff like = of("2x4@01;p005,p025");
        due(like.minutes(1), 1);
        due(like.minutes(2), 3);
        // BREATHLESS: he stays in even MINUTES
        BlindBuff h = of("2x6@00;h059");
        due(h.minutes(1), 0);
        due(h.count(3), 0);
        due(h.minutes(1), 0);
        due(h.count(3), 1);
        due(h.minutes(1), 0);
        due(h.count(3), 1);
        due(h.minutes(6), 0);
        due(h.minutes(1), 1);
        due(h.count(4), 10);

        int[] bad = {0, 41, -1, LOW, HIGH};
        for (int n : bad) {
            due(h.minutes(n), BAD);
        }
        due(h.count(4), 10);
        for (int i = 0; i < 249; i++) {
            due(h.minutes(40), 1);
        }
        due(h.minutes(30), FULL);
        due(h.minutes(41), BAD);
        due(h.count(4), 9970);
        due(h.minutes(29), 1);
        due(h.count(4), 9999);
        due(h.minutes(1), FULL);
        due(h.ahead(60, 1), 1);
        due(h.drift(1), FULL);
    }

    @Sentence(promise = 10, words =
            "WALKED up, down, to the left, to the right (0 .. 3): the CELL. BAD; NOT: it is CAUGHT, there is "
            + "no such CELL.")
    static void walk() {
        BlindBuff x = of("2x3@00;p110,p000");
        due(x.walk(0, 0), 1);
        due(x.walk(0, 0), NOT);
        due(x.walk(0, 3), 2);
        due(x.walk(0, 3), NOT);
        due(x.walk(0, 1), 5);
        due(x.walk(0, 1), NOT);
        due(x.walk(0, 2), 4);
        due(x.walk(0, 2), 3);
        due(x.walk(0, 2), NOT);
        due(x.of(0, 1), 3);
        due(x.count(9), 5);
        due(x.count(4), 0);
        due(x.count(5), 0);
        x.minutes(1);
        due(x.count(5), 2);
        due(x.walk(1, 1), NOT);
        due(x.of(1, 1), 0);
        due(x.count(9), 6);
        int[][] bad = {{-1, 0}, {2, 0}, {0, -1}, {0, 4}, {1, 4}, {LOW, 0}, {HIGH, 0}, {0, LOW}, {0, HIGH}};
        for (int[] a : bad) {
            due(x.walk(a[0], a[1]), BAD);
        }
        // onto his CELL: CAUGHT only in the next MINUTE
        due(x.walk(0, 0), 0);
        due(x.count(5), 2);
        due(x.minutes(1), 3);
    }

    @Sentence(promise = 11, words = "LET GO: who is CAUGHT then (a set). BAD; NOT: it is FREE.")
    static void free() {
        BlindBuff x = of("2x2@00;p000,p000,p110");
        due(x.free(0), NOT);
        due(x.minutes(2), 3);
        due(x.free(2), NOT);
        due(x.free(0), 2);
        due(x.of(0, 5), 0);
        due(x.free(0), NOT);
        due(x.count(9), 3);
        due(x.free(1), 0);
        due(x.count(6), 1);
        due(x.count(7), 1);
        int[] bad = {-1, 3, LOW, HIGH};
        for (int p : bad) {
            due(x.free(p), BAD);
        }
        due(x.minutes(1), 1);
        due(x.count(6), 2);
    }

    @Sentence(promise = 12, words =
            "A DRIFT of n MINUTES (1 .. 40): who is CAUGHT then (a set). BAD; NOT: no PEOPLE; FULL: likewise.")
    static void drift() {
        BlindBuff x = new BlindBuff();
        due(x.drift(1), NOT);
        due(x.drift(0), BAD);
        due(x.drift(41), BAD);
        due(x.drift(LOW), BAD);
        due(x.drift(HIGH), BAD);
        due(x.seed(1), 1);
        // 16838, 5758, 10113, 17515 left over by 3: 2, 1, 0, 1; the ways: down (no such CELL), down, down, to the left
        typed(x, "4x4@00;p110,p220,p330");
        int[] draws = {1103527590, 377401575, 662824084, 1147902781};
        int[][] cells = {{5, 10, 15}, {5, 14, 15}, {9, 14, 15}, {9, 13, 15}};
        for (int m = 0; m < draws.length; m++) {
            due(x.drift(1), 0);
            due(x.seed(draws[m]), draws[m]);
            for (int p = 0; p < 3; p++) {
                due(x.of(p, 1), cells[m][p]);
            }
            due(x.count(4), m + 1);
        }
        due(x.count(9), 4);
        BlindBuff y = of("4x4@00;p110,p220,p330");
        due(y.drift(4), 0);
        due(y.seed(0), draws[3]);
        due(y.of(0, 1), cells[3][0]);
        due(y.of(1, 1), cells[3][1]);
        due(y.of(2, 1), cells[3][2]);
        due(y.count(9), 4);
        // who is CAUGHT stays where it is, but THE DRAW goes on
        BlindBuff z = of("2x2@00;p000");
        due(z.minutes(1), 1);
        due(z.drift(40), 1);
        due(z.of(0, 1), 0);
        due(z.count(4), 41);
        due(z.drift(40), 1);
        due(z.count(9), 8);
        // 476387081 by 65536 is 7269, by one more were 7268: person 1 goes to the left
        BlindBuff e = of("2x4@00;p130,p130");
        e.seed(16);
        due(e.drift(1), 0);
        due(e.of(0, 1), 7);
        due(e.of(1, 1), 6);
        // to MINUTE 9999, and no further
        BlindBuff full = of("2x2@00;p110");
        for (int i = 0; i < 249; i++) {
            full.minutes(40);
        }
        full.minutes(35);
        due(full.count(4), 9995);
        due(full.drift(5), FULL);
        due(full.count(4), 9995);
        due(full.seed(1), 1);
        due(full.drift(4) >= 0 ? 1 : 0, 1);
        due(full.count(4), 9999);
        due(full.drift(1), FULL);
        // the walk comes ahead of the MINUTE: up there is no CELL, but to the left it is he who stands there
        BlindBuff w = of("2x2@00;p010");
        due(w.seed(0), 1);
        due(w.drift(1), 0);
        due(w.of(0, 1), 1);
        due(w.seed(2), 12345);
        due(w.drift(1), 1);
        due(w.seed(1), 59559187);
        due(w.of(0, 1), 0);
        due(w.count(6), 1);
    }

    private static BlindBuff sixBehind(int steps) {
        BlindBuff x = of("3x4@02;p020a,p120a,h219,p230,p200,p030f");
        x.seed(4);
        for (int i = 0; i < steps; i++) {
            due((i % 2 == 0 ? x.minutes(1) : x.drift(1)) > 0 ? 1 : 0, 1);
        }
        return x;
    }

    @Sentence(promise = 13, words = "UNDONE: how many more may be. NONE: none is known.")
    static void undo() {
        BlindBuff x = of("3x3@00;p229a,p020a");
        String a = all(x);
        x.walk(1, 1);
        String b = all(x);
        x.minutes(3);
        x.free(1);
        due(x.count(9), 4);
        x.minutes(1);
        x.undo();
        x.undo();
        x.undo();
        due(x.count(4), 1);
        due(x.undo(), 1);
        same(x, b);
        due(x.undo(), 0);
        same(x, a);
        due(x.undo(), NONE);
        same(x, a);

        // LET GO is UNDONE; RIGHT, WRONG are as they were
        BlindBuff f = of("2x2@00;p000a,p000a");
        f.minutes(2);
        due(f.count(7), 1);
        due(f.free(0), 2);
        due(f.undo(), 2);
        due(f.count(5), 3);
        due(f.undo(), 1);
        due(f.count(5), 1);
        due(f.count(6), 1);
        due(f.count(7), 0);
        due(f.minutes(1), 3);
        due(f.count(7), 1);
        f.minutes(1);
        due(f.undo(), 2);
        due(f.count(6), 1);
        due(f.count(7), 1);
        due(f.undo(), 1);
        due(f.count(7), 0);
        // what was told since stays, but for THE DRAW
        f.seed(99);
        f.minutes(1);
        f.seed(5);
        f.rule(0, 0, 7);
        f.rule(1, 1, 33);
        due(f.undo(), 1);
        due(f.seed(99), 99);
        due(f.of(0, 2), 7);
        due(f.of(1, 4), 33);
        due(f.count(4), 1);

        // 8 are known
        BlindBuff m = of("2x6@00;p059");
        m.minutes(4);
        m.undo();
        m.minutes(1);
        due(m.minutes(5), 1);
        due(m.count(9), 8);
        for (int left = 7; left >= 0; left--) {
            due(m.undo(), left);
        }
        due(m.undo(), NONE);
        due(m.count(4), 1);
        due(m.count(3), 1);
        due(m.count(5), 0);

        // six PEOPLE, RIGHT, WRONG, THE DRAW and he, each as it was
        for (int steps = 0; steps < 8; steps++) {
            BlindBuff back = sixBehind(8);
            due(back.count(6) > 0 && back.count(7) > 0 ? 1 : 0, 1);
            for (int left = 7; left >= steps; left--) {
                due(back.undo(), left);
            }
            same(back, all(sixBehind(steps)));
        }

        // a MINUTE of a DRIFT is UNDONE with its draw and its walk
        BlindBuff d = of("4x4@00;p110,p220");
        String ahead = all(d);
        d.drift(1);
        String one = all(d);
        d.drift(1);
        due(d.undo(), 1);
        same(d, one);
        due(d.undo(), 0);
        same(d, ahead);

        // a CITY, STREETS, a new PERSON leave nothing; refused ones leave all
        BlindBuff s = new BlindBuff();
        s.minutes(2);
        s.streets(1, 1);
        s.person(5, 0, 0, 0);
        typed(s, "2x2@00;");
        s.minutes(0);
        s.walk(0, 0);
        s.free(0);
        s.drift(1);
        due(s.count(9), 2);
        s.person(0, 0, 0, 0);
        due(s.undo(), NONE);
        s.minutes(2);
        typed(s, "2x2@00;p000");
        due(s.undo(), NONE);
        s.minutes(2);
        s.streets(2, 2);
        due(s.undo(), NONE);
    }

    @Sentence(promise = 14, words = "THE DRAW becomes v: what it was. BAD: below 0.")
    static void seed() {
        BlindBuff x = new BlindBuff();
        due(x.seed(0), 1);
        due(x.seed(HIGH), 0);
        due(x.seed(-1), BAD);
        due(x.seed(LOW), BAD);
        due(x.seed(3), HIGH);
        x.streets(3, 3);
        x.person(0, 8, 0, 0);
        due(x.seed(HIGH), 3);
        x.drift(1);
        due(x.seed(1), (int) ((2147483647L * 1103515245L + 12345L) & 0x7fffffffL));
    }

    @Sentence(promise = 15, words =
            "Behind n MINUTES: 0 where THE CONSTABLE is, 1 who is CAUGHT (a set), 2 RIGHT, 3 WRONG. BAD.")
    static void ahead() {
        BlindBuff x = of("2x4@00;p039a,p010ab");
        x.rule(1, 1, 2);
        String was = all(x);
        int[][] due = {{0, 0, 0, 0}, {1, 2, 0, 1}, {2, 2, 0, 1}, {3, 3, 1, 1}, {3, 3, 1, 1}};
        for (int n = 0; n < due.length; n++) {
            for (int what = 0; what < 4; what++) {
                due(x.ahead(n, what), due[n][what]);
            }
        }
        due(x.ahead(60, 0), 3);
        same(x, was);
        int[][] bad = {{-1, 0}, {61, 0}, {0, -1}, {0, 4}, {LOW, 0}, {HIGH, 0}, {0, LOW}, {0, HIGH}};
        for (int[] a : bad) {
            due(x.ahead(a[0], a[1]), BAD);
        }
        BlindBuff empty = new BlindBuff();
        due(empty.ahead(60, 0), 0);
    }

    @Sentence(promise = 16, words = "NEXT: who (what 0), behind how many (1), as whom (2); NONE. BAD.")
    static void next() {
        BlindBuff x = of("2x4@00;p039a,p020ab");
        x.rule(1, 1, 2);
        String was = all(x);
        due(x.next(0), 1);
        due(x.next(1), 2);
        due(x.next(2), 0);
        same(x, was);
        x.minutes(2);
        due(x.next(0), 0);
        due(x.next(1), 1);
        due(x.next(2), 0);
        x.minutes(1);
        due(x.next(0), NONE);
        due(x.next(1), NONE);
        due(x.next(2), NONE);
        due(x.next(-1), BAD);
        due(x.next(3), BAD);
        due(x.next(LOW), BAD);
        due(x.next(HIGH), BAD);
        due(new BlindBuff().next(3), BAD);
        due(new BlindBuff().next(0), NONE);
        // FAR by 10, BREATHLESS: heard in no MINUTE
        due(of("6x6@00;h559").next(1), NONE);
        due(of("6x6@00;h459").next(1), NONE);
        due(of("6x6@00;h349").next(1), 14);
    }

    @Sentence(promise = 17, words = "STAND: the CELL (what 0), behind how many (1). BAD; NOT: it is CAUGHT.")
    static void stand() {
        // all of 2 x 3 are heard: the farthest CELL takes longest
        BlindBuff x = of("2x3@00;p019");
        String was = all(x);
        due(x.stand(0, 0), 5);
        due(x.stand(0, 1), 3);
        same(x, was);
        // by NOISE 2 one is not heard when FAR by 2: the first such CELL, never
        BlindBuff q = of("3x3@11;p112");
        due(q.stand(0, 0), 0);
        due(q.stand(0, 1), 61);
        BlindBuff corner = of("2x2@01;p009");
        due(corner.stand(0, 0), 2);
        due(corner.stand(0, 1), 2);
        BlindBuff all = of("2x2@00;p119,p110");
        due(all.stand(0, 0), 3);
        due(all.stand(0, 1), 2);
        // he is off to the other one at once, so even his own CELL will do
        due(all.stand(1, 0), 0);
        due(all.stand(1, 1), 61);
        all.minutes(2);
        due(all.stand(0, 0), NOT);
        due(all.stand(0, 2), BAD);
        due(all.stand(1, 0), 0);
        int[][] bad = {{-1, 0}, {2, 0}, {1, -1}, {1, 2}, {LOW, 0}, {HIGH, 0}, {1, LOW}, {1, HIGH}};
        for (int[] a : bad) {
            due(all.stand(a[0], a[1]), BAD);
        }
    }

    @Sentence(promise = 18, words = "HUSH; NONE. BAD; NOT: it is CAUGHT.")
    static void hush() {
        // FAR by 3: NOISE 3 or less is not heard
        BlindBuff x = of("2x4@00;p039");
        String was = all(x);
        due(x.hush(0, 1), 0);
        due(x.hush(0, 2), 0);
        due(x.hush(0, 3), 6);
        due(x.hush(0, 60), 6);
        same(x, was);
        // all NOISE less does not help a BELLED one, nor one on his CELL
        BlindBuff b = of("2x4@00;b039,p000");
        due(b.hush(0, 3), NONE);
        due(b.hush(0, 2), 0);
        due(b.hush(1, 1), 0);
        due(of("2x4@00;p000").hush(0, 1), NONE);
        due(of("2x4@00;p019").hush(0, 60), 8);
        due(of("2x4@00;p011").hush(0, 60), 0);
        due(of("2x4@00;p012").hush(0, 60), 1);
        b.minutes(3);
        due(b.hush(0, 1), NOT);
        due(b.hush(0, 0), BAD);
        int[][] bad = {{-1, 1}, {2, 1}, {1, 0}, {1, 61}, {LOW, 1}, {HIGH, 1}, {1, LOW}, {1, HIGH}};
        for (int[] a : bad) {
            due(b.hush(a[0], a[1]), BAD);
        }
    }

    @Sentence(promise = 19, words = "MASK: how many (what 0), which (1); NONE. BAD.")
    static void mask() {
        BlindBuff x = of("2x2@00;p000abc,p000ab,p000f");
        String was = all(x);
        due(x.mask(0, 0), 1);
        due(x.mask(0, 1), 4);
        // 1 feels ab: with c otherwise it is as 0
        due(x.mask(1, 0), 1);
        due(x.mask(1, 1), 4);
        // 2 feels f (32); with a, b otherwise it is as far from ab as from f less 1: 35 ^ 3 is 1, 35 ^ 32 is 2
        due(x.mask(2, 0), 2);
        due(x.mask(2, 1), 3);
        same(x, was);
        x.rule(0, 1, 4);
        due(x.mask(0, 0), 0);
        due(x.mask(0, 1), 0);
        x.rule(0, 1, 12);
        due(x.of(0, 8), 1);
        x.rule(0, 1, 8);
        due(x.mask(0, 0), 1);
        due(x.mask(0, 1), 4);
        // CAUGHT ones, too; the last of like ones is never NAMED
        x.minutes(1);
        due(x.mask(0, 0), 1);
        BlindBuff twin = of("2x2@00;p000a,p000a");
        due(twin.mask(0, 0), NONE);
        due(twin.mask(0, 1), NONE);
        due(twin.mask(1, 0), 0);
        due(twin.mask(1, 1), 0);
        BlindBuff far = of("2x2@00;p000,p000abcdef");
        due(far.mask(0, 0), 4);
        due(far.mask(0, 1), 15);
        due(far.mask(1, 0), 3);
        due(far.mask(1, 1), 7);
        int[][] bad = {{-1, 0}, {2, 0}, {0, -1}, {0, 2}, {LOW, 0}, {HIGH, 0}, {0, LOW}, {0, HIGH}};
        for (int[] a : bad) {
            due(far.mask(a[0], a[1]), BAD);
        }
    }

    @Sentence(promise = 20, words = "ALIKE: how many (what 0), the first (1; NONE). BAD.")
    static void alike() {
        BlindBuff x = of("2x2@00;p000abc,p000f,p000ab,p000abc,p000abcdef");
        int[] many = {1, 3, 3, 6, 9, 10, 10};
        int[] first = {3, 2, 2, 2, 1, 1, 1};
        for (int k = 0; k <= 6; k++) {
            due(x.alike(k, 0), many[k]);
            due(x.alike(k, 1), first[k]);
        }
        // by LOOKS: whatever they are disguised as
        x.rule(0, 1, 63);
        due(x.alike(0, 0), 1);
        BlindBuff late = of("2x2@00;p000,p000abcdef,p000abc,p000ab");
        due(late.alike(1, 1), 23);
        due(late.alike(0, 0), 0);
        due(late.alike(0, 1), NONE);
        due(new BlindBuff().alike(6, 0), 0);
        due(new BlindBuff().alike(6, 1), NONE);
        int[][] bad = {{-1, 0}, {7, 0}, {0, -1}, {0, 2}, {LOW, 0}, {HIGH, 0}, {0, LOW}, {0, HIGH}};
        for (int[] a : bad) {
            due(x.alike(a[0], a[1]), BAD);
        }
        due(new BlindBuff().alike(0, 2), BAD);
    }

    @Sentence(promise = 21, words = "TURNED: how many (what 0), the first (1; NONE). BAD.")
    static void turned() {
        // 2 x 4: from the left half he goes to 0, from the right one to 1, by what is LOUDER
        BlindBuff x = of("2x4@00;p009,p039");
        String was = all(x);
        due(x.turned(0, 0), 4);
        due(x.turned(0, 1), 0);
        due(x.turned(1, 0), 4);
        due(x.turned(1, 1), 2);
        same(x, was);
        due(x.minutes(1), 1);
        due(x.turned(0, 0), 0);
        due(x.turned(0, 1), NONE);
        due(x.turned(1, 0), 8);
        due(x.turned(1, 1), 0);
        // not heard: only where he stands on it
        BlindBuff q = of("2x4@00;p120");
        due(q.turned(0, 0), 1);
        due(q.turned(0, 1), 6);
        int[][] bad = {{-1, 0}, {1, 0}, {0, -1}, {0, 2}, {LOW, 0}, {HIGH, 0}, {0, LOW}, {0, HIGH}};
        for (int[] a : bad) {
            due(q.turned(a[0], a[1]), BAD);
        }
    }

    @Sentence(promise = 22, words = "LUCK: above (what 0), below (1). BAD.")
    static void luck() {
        // LOUD by 5, 5, 8, 0, 4
        BlindBuff x = of("2x6@00;p016,p105,p019,p051,b050");
        String was = all(x);
        int[][] due = {
            // person, c, above, below
            {2, 0, 1, 1}, {0, 0, 0, 1}, {2, 3, 7, 10}, {0, 3, 21, 100}, {0, 5, 1, 4}, {1, 5, 1, 8}, {4, 5, 1, 16},
            {4, 2, 4, 625}, {3, 5, 0, 1}, {2, 10, 0, 1}, {4, 10, 0, 1}, {1, 9, 81, 1000}, {2, 5, 1, 2}};
        due(x.of(0, 7), 5);
        due(x.of(1, 7), 4);
        x.rule(1, 0, 6);
        due(x.of(1, 7), 5);
        for (int[] d : due) {
            due(x.luck(d[0], d[1], 0), d[2]);
            due(x.luck(d[0], d[1], 1), d[3]);
        }
        x.rule(1, 0, 5);
        same(x, was);
        // LOUD by 1 is enough
        BlindBuff low = of("2x2@00;p012");
        due(low.of(0, 7), 1);
        due(low.luck(0, 5, 0), 1);
        due(low.luck(0, 5, 1), 2);
        // a CAUGHT one is not followed, nor does it keep him from others
        BlindBuff c = of("2x2@00;p009,p019");
        c.minutes(1);
        due(c.luck(0, 5, 0), 0);
        due(c.luck(0, 5, 1), 1);
        due(c.luck(1, 4, 0), 3);
        due(c.luck(1, 4, 1), 5);
        BlindBuff six = of("2x2@00;p009,p009,p009,p009,p009,p009");
        due(six.luck(5, 9, 0), 59049);
        due(six.luck(5, 9, 1), 1000000);
        int[][] bad = {{-1, 0, 0}, {6, 0, 0}, {0, -1, 0}, {0, 11, 0}, {0, 0, -1}, {0, 0, 2}, {LOW, 0, 0},
            {HIGH, 0, 0}, {0, LOW, 0}, {0, HIGH, 0}, {0, 0, LOW}, {0, 0, HIGH}};
        for (int[] a : bad) {
            due(six.luck(a[0], a[1], a[2]), BAD);
        }
    }

    @Sentence(promise = 23, words = "All but SHEETS, THE TAPE is kept as an IMAGE: 1.")
    static void image() {
        BlindBuff x = of("3x3@00;p229a,p020a");
        x.minutes(2);
        x.walk(1, 1);
        x.rule(0, 1, 9);
        x.seed(42);
        x.type('2');
        x.sheet(0, 2, 3);
        String was = all(x);
        due(x.image(), 1);
        same(x, was);
        x.type('x');
        x.drop(0);
        x.sheet(1, 1, 5);
        x.undo();
        x.minutes(5);
        x.seed(7);
        x.streets(5, 5);
        due(x.restore(), 1);
        same(x, was);
        // SHEETS and THE TAPE are as they are
        due(x.drop(0), NULL);
        due(x.drop(1), 5);
        due(x.type('3'), 3);
        // what may be UNDONE is kept, too
        due(x.undo(), 2);
        due(x.of(1, 1), 2);
        due(x.undo(), 1);
        due(x.undo(), 0);
        due(x.count(4), 0);
        // each step that is kept is as it was, whatever was done since
        BlindBuff y = of("3x3@00;p220,p020");
        y.walk(0, 0);
        y.walk(0, 2);
        y.walk(1, 1);
        y.image();
        typed(y, "6x6@55;p009,p009");
        y.minutes(20);
        y.restore();
        y.undo();
        due(y.of(1, 1), 2);
        y.undo();
        due(y.of(0, 1), 5);
        y.undo();
        due(y.of(0, 1), 8);
        due(y.count(4), 0);
        due(y.count(3), 0);
        // a later IMAGE is in place of the earlier one
        String start = all(x);
        due(x.image(), 1);
        x.minutes(3);
        due(x.restore(), 1);
        same(x, start);
    }

    @Sentence(promise = 24, words = "All is as it was then: 1. NONE: there is none.")
    static void restore() {
        BlindBuff x = new BlindBuff();
        due(x.restore(), NONE);
        x.image();
        String empty = all(x);
        typed(x, "3x3@00;p229a,p020a");
        x.minutes(9);
        String later = all(x);
        due(x.restore(), 1);
        same(x, empty);
        typed(x, "3x3@00;p229a,p020a");
        x.minutes(9);
        same(x, later);
        due(x.restore(), 1);
        due(x.restore(), 1);
        same(x, empty);
        // what is done behind an IMAGE does not reach into it
        typed(x, "3x3@00;p220,p020");
        x.image();
        String was = all(x);
        x.walk(0, 0);
        x.rule(0, 0, 9);
        x.rule(1, 1, 63);
        x.minutes(20);
        due(x.restore(), 1);
        same(x, was);
        due(x.undo(), NONE);
    }

    @Sentence(promise = 25, words =
            "SEEN by n items of a SHEET taken as a row of a LANE, from item i on: how many (what 0), the first "
            + "(1; NONE). BAD; NULL; CAST; INDEX.")
    static void seen() {
        // the film is 1, 2, 3: on 1 he is from 0 or up from 5, on 3 from 2, from 3 itself or up from 7
        BlindBuff x = of("2x4@00;p039");
        String was = all(x);
        x.sheet(0, 2, 4);
        due(x.film(3, 0, 2, 0), 3);
        due(x.seen(0, 2, 0, 1, 0), 2);
        due(x.seen(0, 2, 0, 1, 1), 0);
        due(x.seen(0, 2, 0, 3, 0), 2);
        due(x.seen(0, 2, 1, 1, 0), 2);
        due(x.seen(0, 2, 1, 1, 1), 1);
        due(x.seen(0, 2, 2, 1, 0), 3);
        due(x.seen(0, 2, 2, 1, 1), 2);
        due(x.seen(0, 2, 3, 1, 0), 1);
        due(x.seen(0, 2, 3, 1, 1), 4);
        x.item(0, 2, 3, 7);
        due(x.seen(0, 2, 3, 1, 0), 0);
        due(x.seen(0, 2, 3, 1, 1), NONE);
        due(x.seen(0, 2, 2, 2, 0), 0);
        same(x, was);
        BlindBuff small = of("2x2@00;p119");
        small.sheet(3, 0, 1);
        small.item(3, 0, 0, 2);
        due(small.seen(3, 0, 0, 1, 0), 1);
        // every LANE; 8 MINUTES at most
        for (int lane = 0; lane < 4; lane++) {
            x.sheet(1, lane, 24);
            due(x.film(24, 1, lane, 0), 24);
            due(x.seen(1, lane, 0, 8, 0), 2);
            due(x.seen(1, lane, 16, 8, 0), 3);
            due(x.seen(1, lane, 17, 8, 0), INDEX);
            due(x.seen(1, lane, -1, 8, 0), INDEX);
            due(x.seen(1, lane, HIGH, 8, 0), INDEX);
            due(x.seen(1, lane, LOW, 8, 0), INDEX);
            due(x.seen(1, (lane + 1) % 4, 17, 8, 0), CAST);
            due(x.seen(1, lane, 0, 9, 0), BAD);
        }
        // 1 and 2 to the 32: another number than 1
        x.item(1, 3, 0, 1L);
        due(x.seen(1, 3, 0, 1, 0), 2);
        x.item(1, 3, 0, 1L + (1L << 32));
        due(x.seen(1, 3, 0, 1, 0), 0);
        due(x.seen(2, 0, -1, 1, 0), NULL);
        int[][] bad = {{-1, 0, 0, 1, 0}, {4, 0, 0, 1, 0}, {2, -1, 0, 1, 0}, {2, 4, 0, 1, 0}, {2, 0, 0, 0, 0},
            {2, 0, 0, 9, 0}, {2, 0, 0, 1, -1}, {2, 0, 0, 1, 2}, {LOW, 0, 0, 1, 0}, {HIGH, 0, 0, 1, 0},
            {2, LOW, 0, 1, 0}, {2, HIGH, 0, 1, 0}, {2, 0, 0, LOW, 0}, {2, 0, 0, HIGH, 0}, {2, 0, 0, 1, LOW}};
        for (int[] a : bad) {
            due(x.seen(a[0], a[1], a[2], a[3], a[4]), BAD);
        }
    }

    @Sentence(promise = 26, words =
            "Where THE CONSTABLE is behind 1, 2, .. n MINUTES (1 .. 24), an item each, comes to a SHEET "
            + "likewise: n. BAD; NULL; CAST; INDEX.")
    static void film() {
        BlindBuff x = of("2x4@00;p039");
        String was = all(x);
        for (int lane = 0; lane < 4; lane++) {
            x.sheet(0, lane, 5);
            x.item(0, lane, 0, 77);
            due(x.film(3, 0, lane, 1), 3);
            due(x.seen(0, lane, 1, 3, 0), 2);
            // the items ahead of it and behind it are as they were
            due(x.seen(0, lane, 0, 1, 0), 0);
            due(x.seen(0, lane, 4, 1, 1), 4);
            due(x.film(5, 0, lane, 0), 5);
            due(x.film(5, 0, lane, 1), INDEX);
            due(x.film(1, 0, lane, 5), INDEX);
            due(x.film(1, 0, lane, -1), INDEX);
            due(x.film(1, 0, lane, LOW), INDEX);
            due(x.film(24, 0, lane, HIGH), INDEX);
            due(x.film(1, 0, (lane + 1) % 4, -1), CAST);
        }
        // what is refused changes nothing
        x.sheet(0, 0, 2);
        due(x.film(3, 0, 0, 0), INDEX);
        due(x.seen(0, 0, 0, 1, 1), 4);
        same(x, was);
        due(x.film(1, 1, 0, -1), NULL);
        int[][] bad = {{0, 1, 0, 0}, {25, 1, 0, 0}, {1, -1, 0, 0}, {1, 4, 0, 0}, {1, 1, -1, 0}, {1, 1, 4, 0},
            {LOW, 1, 0, 0}, {HIGH, 1, 0, 0}, {1, LOW, 0, 0}, {1, HIGH, 0, 0}, {1, 1, LOW, 0}, {1, 1, HIGH, 0}};
        for (int[] a : bad) {
            due(x.film(a[0], a[1], a[2], a[3]), BAD);
        }
    }

    @Sentence(promise = 27, words = "A SHEET holds a new row of a LANE: n. BAD: also n above 24; SIZE: n below 0.")
    static void sheet() {
        BlindBuff x = of("2x4@00;p039");
        due(x.sheet(0, 0, 0), 0);
        due(x.sheet(1, 1, 1), 1);
        due(x.sheet(2, 2, 23), 23);
        due(x.sheet(3, 3, 24), 24);
        due(x.sheet(3, 3, 25), BAD);
        due(x.sheet(3, 3, HIGH), BAD);
        due(x.sheet(3, 3, -1), SIZE);
        due(x.sheet(3, 3, LOW), SIZE);
        due(x.drop(3), 24);
        due(x.sheet(3, 3, -1), SIZE);
        due(x.drop(3), NULL);
        int[][] bad = {{-1, 0, 1}, {4, 0, 1}, {0, -1, 1}, {0, 4, 1}, {LOW, 0, 1}, {HIGH, 0, 1}, {0, LOW, 1},
            {0, HIGH, 1}, {-1, 0, -1}, {0, 4, -1}};
        for (int[] a : bad) {
            due(x.sheet(a[0], a[1], a[2]), BAD);
        }
        due(x.drop(0), 0);
        // a new row is of 0s, and of its own length and LANE
        due(x.item(1, 1, 0, 9), 1);
        due(x.sheet(1, 1, 2), 2);
        due(x.seen(1, 1, 0, 1, 1), 4);
        due(x.item(1, 1, 0, 9), 1);
        due(x.sheet(1, 2, 1), 1);
        due(x.seen(1, 2, 0, 1, 1), 4);
        due(x.item(1, 1, 0, 9), CAST);
        due(x.item(1, 2, 1, 9), INDEX);
    }

    @Sentence(promise = 28, words = "A SHEET holds nothing: how many items it had. BAD; NULL.")
    static void drop() {
        BlindBuff x = new BlindBuff();
        due(x.drop(0), NULL);
        for (int s = 0; s < 4; s++) {
            x.sheet(s, s, 5 * s);
        }
        for (int s = 3; s >= 0; s--) {
            due(x.drop(s), 5 * s);
            due(x.drop(s), NULL);
        }
        due(x.sheet(2, 0, 7), 7);
        due(x.drop(2), 7);
        due(x.item(2, 0, 0, 1), NULL);
        int[] bad = {-1, 4, LOW, HIGH};
        for (int s : bad) {
            due(x.drop(s), BAD);
        }
    }

    @Sentence(promise = 29, words =
            "Item i of a SHEET, taken as a row of a LANE, becomes v, its lowest bits: 1. BAD; NULL; CAST; "
            + "INDEX.")
    static void item() {
        BlindBuff x = of("2x4@00;p039");
        long[] one = {1L + 256, 1L + 65536, 1L + (1L << 32), 1L};
        long[] other = {1L + 128, 1L + 256, 1L + 65536, 1L + (1L << 32)};
        for (int lane = 0; lane < 4; lane++) {
            x.sheet(0, lane, 24);
            due(x.item(0, lane, 23, one[lane]), 1);
            due(x.seen(0, lane, 23, 1, 0), 2);
            due(x.item(0, lane, 23, other[lane]), 1);
            due(x.seen(0, lane, 23, 1, 0), 0);
            due(x.item(0, lane, 0, Long.MIN_VALUE + 1), 1);
            due(x.seen(0, lane, 0, 1, 0), lane == 3 ? 0 : 2);
            due(x.item(0, lane, 24, 1), INDEX);
            due(x.item(0, lane, -1, 1), INDEX);
            due(x.item(0, lane, LOW, 1), INDEX);
            due(x.item(0, lane, HIGH, 1), INDEX);
            due(x.item(0, (lane + 1) % 4, 24, 1), CAST);
        }
        x.sheet(1, 0, 0);
        due(x.item(1, 0, 0, 1), INDEX);
        due(x.item(2, 0, -1, 1), NULL);
        int[][] bad = {{-1, 0}, {4, 0}, {2, -1}, {2, 4}, {LOW, 0}, {HIGH, 0}, {2, LOW}, {2, HIGH}};
        for (int[] a : bad) {
            due(x.item(a[0], a[1], 0, 1), BAD);
        }
    }

    @Sentence(promise = 30, words =
            "n items of a SHEET from i on come to another one (or the same) from j on, as if all were taken "
            + "ahead: n. BAD; NULL (either); CAST: of unlike LANES; INDEX.")
    static void copy() {
        BlindBuff x = of("2x4@00;p039");
        x.sheet(0, 1, 6);
        x.sheet(1, 1, 4);
        x.film(3, 0, 1, 1);
        due(x.copy(0, 1, 1, 0, 3), 3);
        due(x.seen(1, 1, 0, 3, 0), 2);
        due(x.seen(1, 1, 3, 1, 1), 4);
        // within one SHEET, to both sides, as if all were taken ahead
        due(x.copy(0, 1, 0, 2, 3), 3);
        due(x.seen(0, 1, 2, 3, 0), 2);
        due(x.seen(0, 1, 1, 1, 0), 2);
        due(x.copy(0, 2, 0, 0, 4), 4);
        due(x.seen(0, 1, 0, 3, 0), 2);
        due(x.seen(0, 1, 3, 1, 1), 4);
        // none of them, also at the end
        due(x.copy(0, 6, 1, 4, 0), 0);
        due(x.copy(0, 7, 1, 4, 0), INDEX);
        due(x.copy(0, 6, 1, 5, 0), INDEX);
        due(x.copy(0, 0, 1, 0, 5), INDEX);
        due(x.copy(0, 3, 1, 0, 4), INDEX);
        due(x.copy(0, -1, 1, 0, 1), INDEX);
        due(x.copy(0, 0, 1, -1, 1), INDEX);
        due(x.copy(0, 0, 1, 0, -1), INDEX);
        due(x.copy(0, 0, 1, 0, LOW), INDEX);
        due(x.copy(0, 0, 1, 0, HIGH), INDEX);
        due(x.copy(0, HIGH, 1, HIGH, HIGH), INDEX);
        due(x.copy(0, LOW, 1, LOW, LOW), INDEX);
        x.sheet(2, 2, 6);
        due(x.copy(0, 0, 2, 0, 1), CAST);
        due(x.copy(2, 0, 0, 0, -1), CAST);
        due(x.copy(0, 0, 3, 0, 1), NULL);
        due(x.copy(3, 0, 0, 0, -1), NULL);
        due(x.copy(3, 0, 3, 0, 0), NULL);
        int[] bad = {-1, 4, LOW, HIGH};
        for (int s : bad) {
            due(x.copy(s, 0, 0, 0, 1), BAD);
            due(x.copy(0, 0, s, 0, 1), BAD);
            due(x.copy(3, 0, s, 0, 1), BAD);
            due(x.copy(s, 0, 3, 0, 1), BAD);
        }
    }

    public static void main(String[] args) throws Exception {
        runWhole(PromisesTest.class, 1, 30);
    }
}
