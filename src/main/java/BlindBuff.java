/** Blind man's buff police: a hoodwinked constable, the people he hears, and what he takes them for. */
public final class BlindBuff {
    public static final int BAD = -1, NOT = -2, FULL = -3, NONE = -4, NULL = -11, CAST = -12, INDEX = -13, SIZE = -14;

    private static final int MOST_PEOPLE = 6;
    private static final int MOST_FEATURES = 6;
    private static final int ALL_FEATURES = 63;
    private static final int MOST_NOISE = 9;
    private static final int FEWEST_STREETS = 2;
    private static final int MOST_STREETS = 6;
    private static final int FIRST_ROWS = 4;
    private static final int FIRST_COLUMNS = 5;

    private static final int PLAIN = 0;
    private static final int SOFT = 1;
    private static final int BELLED = 2;
    private static final int BREATHLESS = 3;
    private static final int LAUGHER = 4;

    private static final int UP = 0;
    private static final int DOWN = 1;
    private static final int LEFT = 2;
    private static final int RIGHTWARDS = 3;

    private static final int LOWEST_31_BITS = 0x7fffffff;
    private static final int MOST_AT_ONCE = 40;
    private static final int LAST_MINUTE = 9999;
    private static final int FORETOLD = 60;
    private static final int PARTS = 10;

    private static final int MOST_LETTERS = 90;
    private static final int FIRST_LETTER = 32;
    private static final int LAST_LETTER = 126;
    private static final int FIRST_FAULT = -20;

    private static final int SHEETS = 4;
    private static final int LAST_LANE = 3;
    private static final int MOST_ITEMS = 24;
    private static final int MOST_SEEN = 8;

    private final City now = new City();
    private final Past past = new Past();
    // Foretelling and reading happen here, so that no call has to make a city of its own.
    private final City trial = new City();
    private final City keptCity = new City();
    private final Past keptPast = new Past();
    private boolean kept;
    private final Tape tape = new Tape();
    private final Row[] sheets = new Row[SHEETS];

    public BlindBuff() {
        for (int s = 0; s < SHEETS; s++) {
            sheets[s] = new Row();
        }
    }

    // ---- 1 streets, people

    public int streets(int rows, int columns) {
        if (outside(rows, FEWEST_STREETS, MOST_STREETS) || outside(columns, FEWEST_STREETS, MOST_STREETS)) {
            return BAD;
        }
        now.build(rows, columns);
        past.forget();
        return now.cells();
    }

    public int person(int kind, int cell, int noise, int face) {
        if (outside(kind, PLAIN, LAUGHER) || outside(cell, 0, now.cells() - 1)
                || outside(noise, 0, MOST_NOISE) || outside(face, 0, ALL_FEATURES)) {
            return BAD;
        }
        if (now.people >= MOST_PEOPLE) {
            return FULL;
        }
        past.forget();
        return now.enter(kind, cell, noise, face);
    }

    public int of(int person, int what) {
        if (isNobody(person)) {
            return BAD;
        }
        switch (what) {
            case 0: return now.kind[person];
            case 1: return now.cell[person];
            case 2: return now.noise[person];
            case 3: return now.look[person];
            case 4: return now.disguise[person];
            case 5: return now.isFree(person) ? 0 : 1;
            case 6: return now.far(person);
            case 7: return now.loud(person);
            case 8: return now.namedBy(now.feel(person));
            default: return BAD;
        }
    }

    public int rule(int person, int what, int v) {
        if (isNobody(person)) {
            return BAD;
        }
        if (what == 0 && !outside(v, 0, MOST_NOISE)) {
            int was = now.noise[person];
            now.noise[person] = v;
            return was;
        }
        if (what == 1 && !outside(v, 0, ALL_FEATURES)) {
            int was = now.disguise[person];
            now.disguise[person] = v;
            return was;
        }
        return BAD;
    }

    public int type(int letter) {
        if (outside(letter, FIRST_LETTER, LAST_LETTER)) {
            return BAD;
        }
        if (tape.length >= MOST_LETTERS) {
            return FULL;
        }
        return tape.add(letter);
    }

    public int city() {
        // THE DRAW outlives a CITY, so the one that is read has to start with it.
        trial.take(now);
        boolean stands = tape.readInto(trial);
        int answer = stands ? trial.people : FIRST_FAULT - tape.at;
        tape.length = 0;
        if (stands) {
            now.take(trial);
            past.forget();
        }
        return answer;
    }

    public int count(int what) {
        switch (what) {
            case 0: return now.rows;
            case 1: return now.columns;
            case 2: return now.people;
            case 3: return now.constable;
            case 4: return now.minute;
            case 5: return now.caught;
            case 6: return now.right;
            case 7: return now.wrong;
            case 8: return now.followed();
            case 9: return past.known;
            default: return BAD;
        }
    }

    // ---- what is done

    public int minutes(int n) {
        if (outside(n, 1, MOST_AT_ONCE)) {
            return BAD;
        }
        if (now.minute + n > LAST_MINUTE) {
            return FULL;
        }
        for (int m = 0; m < n; m++) {
            past.keep(now);
            now.pass();
        }
        return now.caught;
    }

    public int walk(int person, int way) {
        if (isNobody(person) || outside(way, UP, RIGHTWARDS)) {
            return BAD;
        }
        int there = now.beside(now.cell[person], way);
        if (!now.isFree(person) || there == NONE) {
            return NOT;
        }
        past.keep(now);
        now.cell[person] = there;
        return there;
    }

    public int free(int person) {
        if (isNobody(person)) {
            return BAD;
        }
        if (now.isFree(person)) {
            return NOT;
        }
        past.keep(now);
        now.caught &= ~(1 << person);
        return now.caught;
    }

    public int drift(int n) {
        if (outside(n, 1, MOST_AT_ONCE)) {
            return BAD;
        }
        if (now.people == 0) {
            return NOT;
        }
        if (now.minute + n > LAST_MINUTE) {
            return FULL;
        }
        for (int m = 0; m < n; m++) {
            // The draw and its walk belong to their MINUTE: they are UNDONE together.
            past.keep(now);
            now.stray();
            now.pass();
        }
        return now.caught;
    }

    public int undo() {
        if (past.known == 0) {
            return NONE;
        }
        past.bringBack(now);
        return past.known;
    }

    public int seed(int v) {
        if (v < 0) {
            return BAD;
        }
        int was = now.draw;
        now.draw = v;
        return was;
    }

    // ---- 2 foretold

    public int ahead(int n, int what) {
        if (outside(n, 0, FORETOLD) || outside(what, 0, 3)) {
            return BAD;
        }
        trial.take(now);
        for (int m = 0; m < n; m++) {
            trial.pass();
        }
        switch (what) {
            case 0: return trial.constable;
            case 1: return trial.caught;
            case 2: return trial.right;
            default: return trial.wrong;
        }
    }

    public int next(int what) {
        if (outside(what, 0, 2)) {
            return BAD;
        }
        trial.take(now);
        int who = trial.passUntilCaught();
        if (who == NONE || what == 0) {
            return who;
        }
        return what == 1 ? trial.minute - now.minute : trial.namedBy(trial.feel(who));
    }

    public int stand(int person, int what) {
        if (isNobody(person) || outside(what, 0, 1)) {
            return BAD;
        }
        if (!now.isFree(person)) {
            return NOT;
        }
        int best = 0;
        int latest = 0;
        for (int cell = 0; cell < now.cells(); cell++) {
            trial.take(now);
            trial.cell[person] = cell;
            int behind = trial.behindHowMany(person, FORETOLD);
            if (behind > latest) {
                latest = behind;
                best = cell;
            }
        }
        return what == 0 ? best : latest;
    }

    public int hush(int person, int n) {
        if (isNobody(person) || outside(n, 1, FORETOLD)) {
            return BAD;
        }
        if (!now.isFree(person)) {
            return NOT;
        }
        for (int less = 0; less <= now.noise[person]; less++) {
            trial.take(now);
            trial.noise[person] -= less;
            if (trial.behindHowMany(person, n) > n) {
                return less;
            }
        }
        return NONE;
    }

    public int mask(int person, int what) {
        if (isNobody(person) || outside(what, 0, 1)) {
            return BAD;
        }
        int fewest = MOST_FEATURES + 1;
        int which = NONE;
        for (int altered = 0; altered <= ALL_FEATURES; altered++) {
            int many = Integer.bitCount(altered);
            if (many < fewest && now.namedBy(now.feel(person) ^ altered) != person) {
                fewest = many;
                which = altered;
            }
        }
        return what == 0 && which != NONE ? fewest : which;
    }

    public int alike(int k, int what) {
        if (outside(k, 0, MOST_FEATURES) || outside(what, 0, 1)) {
            return BAD;
        }
        int many = 0;
        int first = NONE;
        for (int i = 0; i < now.people; i++) {
            for (int j = i + 1; j < now.people; j++) {
                if (Integer.bitCount(now.look[i] ^ now.look[j]) <= k) {
                    first = many == 0 ? 10 * i + j : first;
                    many++;
                }
            }
        }
        return what == 0 ? many : first;
    }

    public int turned(int person, int what) {
        if (isNobody(person) || outside(what, 0, 1)) {
            return BAD;
        }
        int many = 0;
        int first = NONE;
        for (int cell = 0; cell < now.cells(); cell++) {
            trial.take(now);
            trial.constable = cell;
            if (trial.passUntilCaught() == person) {
                first = many == 0 ? cell : first;
                many++;
            }
        }
        return what == 0 ? many : first;
    }

    public int luck(int person, int c, int what) {
        if (isNobody(person) || outside(c, 0, PARTS) || outside(what, 0, 1)) {
            return BAD;
        }
        int above = 0;
        int below = 1;
        if (now.isFree(person) && now.loud(person) > 0) {
            above = PARTS - c;
            below = PARTS;
            for (int other = 0; other < now.people; other++) {
                if (now.goesFirst(other, person)) {
                    above *= c;
                    below *= PARTS;
                }
            }
        }
        int shared = commonDivisor(above, below);
        if (shared == 0) {
            return BAD;
        }
        return (what == 0 ? above : below) / shared;
    }

    public int image() {
        keptCity.take(now);
        keptPast.takePast(past);
        kept = true;
        return 1;
    }

    public int restore() {
        if (!kept) {
            return NONE;
        }
        now.take(keptCity);
        past.takePast(keptPast);
        return 1;
    }

    // ---- 3 sheets

    public int seen(int sheet, int lane, int i, int n, int what) {
        if (isNoSheet(sheet) || outside(lane, 0, LAST_LANE) || outside(n, 1, MOST_SEEN) || outside(what, 0, 1)) {
            return BAD;
        }
        Row row = sheets[sheet];
        int fault = row.faultOf(lane, i, n);
        if (fault < 0) {
            return fault;
        }
        int many = 0;
        int first = NONE;
        for (int cell = 0; cell < now.cells(); cell++) {
            trial.take(now);
            trial.constable = cell;
            if (row.tellsOf(trial, i, n)) {
                first = many == 0 ? cell : first;
                many++;
            }
        }
        return what == 0 ? many : first;
    }

    public int film(int n, int sheet, int lane, int i) {
        if (outside(n, 1, MOST_ITEMS) || isNoSheet(sheet) || outside(lane, 0, LAST_LANE)) {
            return BAD;
        }
        Row row = sheets[sheet];
        int fault = row.faultOf(lane, i, n);
        if (fault < 0) {
            return fault;
        }
        trial.take(now);
        for (int m = 0; m < n; m++) {
            trial.pass();
            row.put(i + m, trial.constable);
        }
        return n;
    }

    public int sheet(int sheet, int lane, int n) {
        if (isNoSheet(sheet) || outside(lane, 0, LAST_LANE) || n > MOST_ITEMS) {
            return BAD;
        }
        if (n < 0) {
            return SIZE;
        }
        sheets[sheet].renew(lane, n);
        return n;
    }

    public int drop(int sheet) {
        if (isNoSheet(sheet)) {
            return BAD;
        }
        Row row = sheets[sheet];
        if (row.isMissing()) {
            return NULL;
        }
        int had = row.length;
        row.lose();
        return had;
    }

    public int item(int sheet, int lane, int i, long v) {
        if (isNoSheet(sheet) || outside(lane, 0, LAST_LANE)) {
            return BAD;
        }
        int fault = sheets[sheet].faultOf(lane, i, 1);
        if (fault < 0) {
            return fault;
        }
        sheets[sheet].put(i, v);
        return 1;
    }

    public int copy(int from, int i, int to, int j, int n) {
        if (isNoSheet(from) || isNoSheet(to)) {
            return BAD;
        }
        Row source = sheets[from];
        Row target = sheets[to];
        if (source.isMissing() || target.isMissing()) {
            return NULL;
        }
        if (source.lane != target.lane) {
            return CAST;
        }
        if (!source.reaches(i, n) || !target.reaches(j, n)) {
            return INDEX;
        }
        System.arraycopy(source.items, i, target.items, j, n);
        return n;
    }

    private boolean isNobody(int person) {
        return person < 0 || person >= now.people;
    }

    private static boolean isNoSheet(int sheet) {
        return outside(sheet, 0, SHEETS - 1);
    }

    private static boolean outside(int v, int least, int most) {
        return v < least || v > most;
    }

    private static int commonDivisor(int a, int b) {
        int larger = a;
        int smaller = b;
        // Numbers of 31 bits need fewer than 50 steps.
        for (int step = 0; step < 64 && smaller != 0; step++) {
            int rest = larger % smaller;
            larger = smaller;
            smaller = rest;
        }
        return larger;
    }

    /** The streets, the people and the constable at one time. */
    private static final class City {
        int rows = FIRST_ROWS;
        int columns = FIRST_COLUMNS;
        int people;
        int constable;
        int caught;
        int minute;
        int right;
        int wrong;
        int draw = 1;
        final int[] kind = new int[MOST_PEOPLE];
        final int[] cell = new int[MOST_PEOPLE];
        final int[] noise = new int[MOST_PEOPLE];
        final int[] look = new int[MOST_PEOPLE];
        final int[] disguise = new int[MOST_PEOPLE];

        void take(City other) {
            rows = other.rows;
            columns = other.columns;
            people = other.people;
            constable = other.constable;
            caught = other.caught;
            minute = other.minute;
            right = other.right;
            wrong = other.wrong;
            draw = other.draw;
            System.arraycopy(other.kind, 0, kind, 0, MOST_PEOPLE);
            System.arraycopy(other.cell, 0, cell, 0, MOST_PEOPLE);
            System.arraycopy(other.noise, 0, noise, 0, MOST_PEOPLE);
            System.arraycopy(other.look, 0, look, 0, MOST_PEOPLE);
            System.arraycopy(other.disguise, 0, disguise, 0, MOST_PEOPLE);
        }

        /** New streets, empty; THE DRAW goes on. */
        void build(int newRows, int newColumns) {
            rows = newRows;
            columns = newColumns;
            people = 0;
            constable = 0;
            caught = 0;
            minute = 0;
            right = 0;
            wrong = 0;
        }

        /** The new person's number; the caller has seen that there is room. */
        int enter(int newKind, int newCell, int newNoise, int face) {
            int number = people;
            if (number < 0 || number >= MOST_PEOPLE) {
                return FULL;
            }
            kind[number] = newKind;
            cell[number] = newCell;
            noise[number] = newNoise;
            look[number] = face;
            disguise[number] = 0;
            people++;
            return number;
        }

        int cells() {
            return rows * columns;
        }

        boolean isFree(int person) {
            return (caught & (1 << person)) == 0;
        }

        int far(int person) {
            return Math.abs(rowOf(cell[person]) - rowOf(constable))
                    + Math.abs(columnOf(cell[person]) - columnOf(constable));
        }

        int rowOf(int place) {
            return columns < FEWEST_STREETS ? 0 : place / columns;
        }

        int columnOf(int place) {
            return columns < FEWEST_STREETS ? 0 : place % columns;
        }

        int loud(int person) {
            int far = far(person);
            int plain = Math.max(0, noise[person] - far);
            int soft = plain / 2;
            int belled = plain + 4;
            switch (kind[person]) {
                case SOFT: return soft;
                case BELLED: return belled;
                case BREATHLESS: return minute % 2 == 0 ? 0 : soft;
                case LAUGHER: return far <= 2 ? 2 * belled : belled;
                default: return plain;
            }
        }

        /** Whom the constable follows in this MINUTE, or NONE. */
        int followed() {
            int who = NONE;
            int loudest = 0;
            for (int p = 0; p < people; p++) {
                if (isFree(p)) {
                    int loud = loud(p);
                    if (loud > loudest) {
                        loudest = loud;
                        who = p;
                    }
                }
            }
            return who;
        }

        /** Whether he would follow the other, not the one, if both of them are heard. */
        boolean goesFirst(int other, int one) {
            if (other == one || !isFree(other)) {
                return false;
            }
            int difference = loud(other) - loud(one);
            return difference > 0 || (difference == 0 && other < one);
        }

        int feel(int person) {
            return look[person] ^ disguise[person];
        }

        /** As whom the constable names one who feels so, or NONE if there is nobody. */
        int namedBy(int felt) {
            int who = NONE;
            int fewest = MOST_FEATURES + 1;
            for (int p = 0; p < people; p++) {
                int otherwise = Integer.bitCount(look[p] ^ felt);
                if (otherwise < fewest) {
                    fewest = otherwise;
                    who = p;
                }
            }
            return who;
        }

        /** One MINUTE: who is CAUGHT in it, or NONE. */
        int pass() {
            int target = followed();
            if (target != NONE) {
                constable = nearerTo(cell[target]);
            }
            int who = firstOnHisCell();
            if (who != NONE) {
                caught |= 1 << who;
                if (namedBy(feel(who)) == who) {
                    right++;
                } else {
                    wrong++;
                }
            }
            minute++;
            return who;
        }

        int nearerTo(int place) {
            int down = rowOf(place) - rowOf(constable);
            if (down != 0) {
                return down > 0 ? constable + columns : constable - columns;
            }
            return constable + Integer.compare(place, constable);
        }

        int firstOnHisCell() {
            for (int p = 0; p < people; p++) {
                if (isFree(p) && cell[p] == constable) {
                    return p;
                }
            }
            return NONE;
        }

        /** MINUTES until somebody is CAUGHT: who, or NONE if nobody is in all that are FORETOLD. */
        int passUntilCaught() {
            int who = NONE;
            for (int m = 0; m < FORETOLD && who == NONE; m++) {
                who = pass();
            }
            return who;
        }

        /** Behind how many MINUTES this one is CAUGHT; one above the most, if in none of them. */
        int behindHowMany(int person, int most) {
            for (int m = 1; m <= most; m++) {
                if (pass() == person) {
                    return m;
                }
            }
            return most + 1;
        }

        /** The CELL beside a place, or NONE if the streets end there. */
        int beside(int place, int way) {
            switch (way) {
                case UP: return rowOf(place) > 0 ? place - columns : NONE;
                case DOWN: return rowOf(place) < rows - 1 ? place + columns : NONE;
                case LEFT: return columnOf(place) > 0 ? place - 1 : NONE;
                case RIGHTWARDS: return columnOf(place) < columns - 1 ? place + 1 : NONE;
                default: return NONE;
            }
        }

        /** THE DRAW goes on, and so does the person whom it means, if it can. */
        void stray() {
            if (people <= 0) {
                return;
            }
            draw = (draw * 1103515245 + 12345) & LOWEST_31_BITS;
            int person = draw / 65536 % people;
            int there = beside(cell[person], draw / 128 % 4);
            if (isFree(person) && there != NONE) {
                cell[person] = there;
            }
        }
    }

    /** What may be UNDONE: a ring of the latest steps, each as the city was ahead of it. */
    private static final class Past {
        static final int MOST_KNOWN = 8;
        static final int CONSTABLE = MOST_PEOPLE;
        static final int CAUGHT = MOST_PEOPLE + 1;
        static final int MINUTE = MOST_PEOPLE + 2;
        static final int RIGHT = MOST_PEOPLE + 3;
        static final int WRONG = MOST_PEOPLE + 4;
        static final int DRAW = MOST_PEOPLE + 5;
        static final int WIDTH = MOST_PEOPLE + 6;

        final int[][] steps = new int[MOST_KNOWN][WIDTH];
        int place;
        int known;

        void forget() {
            known = 0;
        }

        void keep(City city) {
            int[] step = steps[place];
            System.arraycopy(city.cell, 0, step, 0, MOST_PEOPLE);
            step[CONSTABLE] = city.constable;
            step[CAUGHT] = city.caught;
            step[MINUTE] = city.minute;
            step[RIGHT] = city.right;
            step[WRONG] = city.wrong;
            step[DRAW] = city.draw;
            place = (place + 1) % MOST_KNOWN;
            known = Math.min(known + 1, MOST_KNOWN);
        }

        void bringBack(City city) {
            if (known <= 0) {
                return;
            }
            place = (place + MOST_KNOWN - 1) % MOST_KNOWN;
            known--;
            int[] step = steps[place];
            System.arraycopy(step, 0, city.cell, 0, MOST_PEOPLE);
            city.constable = step[CONSTABLE];
            city.caught = step[CAUGHT];
            city.minute = step[MINUTE];
            city.right = step[RIGHT];
            city.wrong = step[WRONG];
            city.draw = step[DRAW];
        }

        void takePast(Past other) {
            place = other.place;
            known = other.known;
            for (int s = 0; s < MOST_KNOWN; s++) {
                System.arraycopy(other.steps[s], 0, steps[s], 0, WIDTH);
            }
        }
    }

    /** Typed letters, and where the reading of them stands: at a fault, on the letter that can't be there. */
    private static final class Tape {
        static final char END = 0;
        static final String KINDS = "psbhl";

        final char[] letters = new char[MOST_LETTERS];
        int length;
        int at;

        /** How many letters there are then; the caller has seen that there is room. */
        int add(int letter) {
            if (length >= 0 && length < MOST_LETTERS) {
                letters[length] = (char) letter;
                length++;
            }
            return length;
        }

        /** Whether the letters are a CITY; if not, the city they were read into is of no use. */
        boolean readInto(City city) {
            at = 0;
            if (!readStreets(city) || !readSign(';')) {
                return false;
            }
            for (int p = 1; p <= MOST_PEOPLE; p++) {
                if (!readPerson(city)) {
                    return false;
                }
                if (peek() == END) {
                    return true;
                }
                if (p == MOST_PEOPLE || !readSign(',')) {
                    return false;
                }
            }
            return false;
        }

        boolean readStreets(City city) {
            int rows = readDigit(FEWEST_STREETS, MOST_STREETS);
            if (rows == NONE || !readSign('x')) {
                return false;
            }
            int columns = readDigit(FEWEST_STREETS, MOST_STREETS);
            if (columns == NONE || !readSign('@')) {
                return false;
            }
            city.build(rows, columns);
            int place = readCell(city);
            city.constable = Math.max(place, 0);
            return place != NONE;
        }

        boolean readPerson(City city) {
            int kind = KINDS.indexOf(peek());
            if (kind < 0) {
                return false;
            }
            at++;
            int place = readCell(city);
            if (place == NONE) {
                return false;
            }
            int noise = readDigit(0, MOST_NOISE);
            if (noise == NONE) {
                return false;
            }
            city.enter(kind, place, noise, readFeatures());
            return true;
        }

        /** Rising features; whatever follows them is left for the reader behind them to refuse. */
        int readFeatures() {
            int features = 0;
            for (int f = 0; f < MOST_FEATURES; f++) {
                if (peek() == 'a' + f) {
                    features |= 1 << f;
                    at++;
                }
            }
            return features;
        }

        int readCell(City city) {
            int row = readDigit(0, city.rows - 1);
            if (row == NONE) {
                return NONE;
            }
            int column = readDigit(0, city.columns - 1);
            return column == NONE ? NONE : row * city.columns + column;
        }

        int readDigit(int least, int most) {
            int digit = peek() - '0';
            if (digit < least || digit > most) {
                return NONE;
            }
            at++;
            return digit;
        }

        boolean readSign(char sign) {
            if (peek() != sign) {
                return false;
            }
            at++;
            return true;
        }

        /** The letter behind the blanks, or END. */
        char peek() {
            while (at < length && at < MOST_LETTERS && letters[at] == ' ') {
                at++;
            }
            return at < length && at < MOST_LETTERS ? letters[at] : END;
        }
    }

    /** What a SHEET holds: nothing, or items of a lane, which are cut to it as they come. */
    private static final class Row {
        static final int MISSING = -1;

        int lane = MISSING;
        int length;
        final long[] items = new long[MOST_ITEMS];

        boolean isMissing() {
            return lane == MISSING;
        }

        void renew(int newLane, int newLength) {
            lane = newLane;
            length = newLength;
            for (int i = 0; i < MOST_ITEMS; i++) {
                items[i] = 0;
            }
        }

        void lose() {
            lane = MISSING;
            length = 0;
        }

        /** NULL, CAST or INDEX, if n items from i on can't be had as a row of the lane; else 0. */
        int faultOf(int asLane, int i, int n) {
            if (isMissing()) {
                return NULL;
            }
            if (lane != asLane) {
                return CAST;
            }
            return reaches(i, n) ? 0 : INDEX;
        }

        boolean reaches(int i, int n) {
            return i >= 0 && n >= 0 && n <= length && i <= length - n;
        }

        void put(int i, long v) {
            if (!reaches(i, 1)) {
                return;
            }
            switch (lane) {
                case 0: items[i] = (byte) v; break;
                case 1: items[i] = (short) v; break;
                case 2: items[i] = (int) v; break;
                default: items[i] = v; break;
            }
        }

        /** Whether the constable of this city, let go on, is where the items say. */
        boolean tellsOf(City city, int i, int n) {
            if (!reaches(i, n)) {
                return false;
            }
            for (int m = 0; m < n; m++) {
                city.pass();
                if (items[i + m] != city.constable) {
                    return false;
                }
            }
            return true;
        }
    }
}
