import java.lang.reflect.Array;
import java.math.BigInteger;
import java.util.ArrayList;
import java.util.Arrays;
import java.util.List;
import java.util.Random;
import java.util.TreeSet;
import java.util.regex.Matcher;
import java.util.regex.Pattern;

/**
 * Long runs of drawn calls, compared with a second model of the document.
 * It is written by other means than the class wherever there are some, so that both do not share a mistake.
 */
public final class ModelTest {
    private static final int BAD = -1, NOT = -2, FULL = -3, NONE = -4, NULL = -11, CAST = -12, INDEX = -13, SIZE = -14;
    private static final int RUNS = 600;
    private static final int CALLS = 512;

    static final class Human implements Cloneable {
        int kind, row, column, noise, look, disguise;

        Human twin() {
            try {
                return (Human) clone();
            } catch (CloneNotSupportedException e) {
                throw new AssertionError(e);
            }
        }
    }

    static final class Town {
        int rows = 4, columns = 5, row = 0, column = 0, minute = 0, right = 0, wrong = 0;
        BigInteger draw = BigInteger.ONE;
        List<Human> humans = new ArrayList<>();
        TreeSet<Integer> caught = new TreeSet<>();
        List<Town> history = new ArrayList<>();

        Town twin(boolean withHistory) {
            Town t = new Town();
            t.rows = rows;
            t.columns = columns;
            t.row = row;
            t.column = column;
            t.minute = minute;
            t.right = right;
            t.wrong = wrong;
            t.draw = draw;
            for (Human h : humans) {
                t.humans.add(h.twin());
            }
            t.caught.addAll(caught);
            if (withHistory) {
                t.history.addAll(history);
            }
            return t;
        }

        void remember() {
            history.add(twin(false));
            if (history.size() > 8) {
                history.remove(0);
            }
        }

        int undo() {
            if (history.isEmpty()) {
                return NONE;
            }
            Town t = history.remove(history.size() - 1);
            row = t.row;
            column = t.column;
            minute = t.minute;
            right = t.right;
            wrong = t.wrong;
            draw = t.draw;
            // an IMAGE may know the same step
            caught = new TreeSet<>(t.caught);
            for (int i = 0; i < humans.size(); i++) {
                humans.get(i).row = t.humans.get(i).row;
                humans.get(i).column = t.humans.get(i).column;
            }
            return history.size();
        }

        int cell() {
            return row * columns + column;
        }

        int set() {
            int bits = 0;
            for (int i : caught) {
                bits += (int) Math.round(Math.pow(2, i));
            }
            return bits;
        }

        int far(Human h) {
            return Math.max(h.row, row) - Math.min(h.row, row) + Math.max(h.column, column) - Math.min(h.column, column);
        }

        int loudAs(int kind, Human h) {
            int far = far(h);
            if (kind == 0) {
                return h.noise > far ? h.noise - far : 0;
            }
            if (kind == 1) {
                return loudAs(0, h) >> 1;
            }
            if (kind == 2) {
                return loudAs(0, h) + 4;
            }
            if (kind == 3) {
                return (minute & 1) == 1 ? loudAs(1, h) : 0;
            }
            return far < 3 ? loudAs(2, h) + loudAs(2, h) : loudAs(2, h);
        }

        /** Of those who do not hold their breath. */
        int follows(int breathless) {
            for (int loud = 30; loud > 0; loud--) {
                for (int i = 0; i < humans.size(); i++) {
                    Human h = humans.get(i);
                    if (!caught.contains(i) && (breathless >> i & 1) == 0 && loudAs(h.kind, h) == loud) {
                        return i;
                    }
                }
            }
            return NONE;
        }

        int named(int felt) {
            for (int k = 0; k <= 6; k++) {
                for (int i = 0; i < humans.size(); i++) {
                    if (unlike(humans.get(i).look, felt) == k) {
                        return i;
                    }
                }
            }
            return NONE;
        }

        int minute() {
            int target = follows(0);
            if (target >= 0) {
                Human h = humans.get(target);
                if (h.row < row) {
                    row--;
                } else if (h.row > row) {
                    row++;
                } else if (h.column < column) {
                    column--;
                } else if (h.column > column) {
                    column++;
                }
            }
            minute++;
            for (int i = 0; i < humans.size(); i++) {
                Human h = humans.get(i);
                if (!caught.contains(i) && h.row == row && h.column == column) {
                    caught.add(i);
                    if (named(h.look ^ h.disguise) == i) {
                        right++;
                    } else {
                        wrong++;
                    }
                    return i;
                }
            }
            return NONE;
        }

        boolean go(Human h, int way) {
            int r = h.row + new int[] {-1, 1, 0, 0}[way];
            int c = h.column + new int[] {0, 0, -1, 1}[way];
            if (r < 0 || c < 0 || r >= rows || c >= columns) {
                return false;
            }
            h.row = r;
            h.column = c;
            return true;
        }

        void drift() {
            draw = draw.multiply(BigInteger.valueOf(1103515245)).add(BigInteger.valueOf(12345))
                    .mod(BigInteger.TWO.pow(31));
            int who = draw.divide(BigInteger.valueOf(65536)).mod(BigInteger.valueOf(humans.size())).intValue();
            int way = draw.divide(BigInteger.valueOf(128)).mod(BigInteger.valueOf(4)).intValue();
            if (!caught.contains(who)) {
                go(humans.get(who), way);
            }
        }

        /** Behind how many MINUTES one is CAUGHT, 61: never. */
        int when(int who) {
            for (int m = 1; m <= 60; m++) {
                if (minute() == who) {
                    return m;
                }
            }
            return 61;
        }
    }

    static int unlike(int a, int b) {
        int n = 0;
        for (int f = 0; f < 6; f++) {
            if ((a >> f & 1) != (b >> f & 1)) {
                n++;
            }
        }
        return n;
    }

    static final class Model {
        Town town = new Town();
        Town kept = null;
        StringBuilder tape = new StringBuilder();
        Object[] sheets = new Object[4];

        int streets(int rows, int columns) {
            if (rows < 2 || rows > 6 || columns < 2 || columns > 6) {
                return BAD;
            }
            BigInteger draw = town.draw;
            town = new Town();
            town.rows = rows;
            town.columns = columns;
            town.draw = draw;
            return rows * columns;
        }

        int person(int kind, int cell, int noise, int face) {
            if (kind < 0 || kind > 4 || cell < 0 || cell >= town.rows * town.columns || noise < 0 || noise > 9
                    || face < 0 || face > 63) {
                return BAD;
            }
            if (town.humans.size() == 6) {
                return FULL;
            }
            Human h = new Human();
            h.kind = kind;
            h.row = cell / town.columns;
            h.column = cell % town.columns;
            h.noise = noise;
            h.look = face;
            town.humans.add(h);
            town.history.clear();
            return town.humans.size() - 1;
        }

        boolean nobody(int p) {
            return p < 0 || p >= town.humans.size();
        }

        int of(int p, int what) {
            if (nobody(p) || what < 0 || what > 8) {
                return BAD;
            }
            Human h = town.humans.get(p);
            int[] all = {h.kind, h.row * town.columns + h.column, h.noise, h.look, h.disguise,
                town.caught.contains(p) ? 1 : 0, town.far(h), town.loudAs(h.kind, h), town.named(h.look ^ h.disguise)};
            return all[what];
        }

        int rule(int p, int what, int v) {
            if (nobody(p) || what < 0 || what > 1 || v < 0 || v > (what == 0 ? 9 : 63)) {
                return BAD;
            }
            Human h = town.humans.get(p);
            int was = what == 0 ? h.noise : h.disguise;
            if (what == 0) {
                h.noise = v;
            } else {
                h.disguise = v;
            }
            return was;
        }

        int type(int letter) {
            if (letter < 32 || letter > 126) {
                return BAD;
            }
            if (tape.length() == 90) {
                return FULL;
            }
            tape.append((char) letter);
            return tape.length();
        }

        int city() {
            String raw = tape.toString();
            tape.setLength(0);
            String text = raw.replace(" ", "");
            if (!CityTexts.isWhole(text)) {
                int good = CityTexts.goodLetters(text);
                int place = 0;
                for (int seen = 0; place < raw.length(); place++) {
                    if (raw.charAt(place) != ' ' && seen++ == good) {
                        break;
                    }
                }
                return -20 - place;
            }
            BigInteger draw = town.draw;
            town = new Town();
            town.draw = draw;
            town.rows = text.charAt(0) - '0';
            town.columns = text.charAt(2) - '0';
            town.row = text.charAt(4) - '0';
            town.column = text.charAt(5) - '0';
            for (String part : text.substring(7).split(",")) {
                Human h = new Human();
                h.kind = "psbhl".indexOf(part.charAt(0));
                h.row = part.charAt(1) - '0';
                h.column = part.charAt(2) - '0';
                h.noise = part.charAt(3) - '0';
                for (char f = 'a'; f <= 'f'; f++) {
                    h.look += part.indexOf(f, 4) >= 0 ? 1 << f - 'a' : 0;
                }
                town.humans.add(h);
            }
            return town.humans.size();
        }

        int count(int what) {
            if (what < 0 || what > 9) {
                return BAD;
            }
            int[] all = {town.rows, town.columns, town.humans.size(), town.cell(), town.minute, town.set(), town.right,
                town.wrong, town.follows(0), town.history.size()};
            return all[what];
        }

        int minutes(int n) {
            if (n < 1 || n > 40) {
                return BAD;
            }
            if (town.minute > 9999 - n) {
                return FULL;
            }
            for (int i = 0; i < n; i++) {
                town.remember();
                town.minute();
            }
            return town.set();
        }

        int walk(int p, int way) {
            if (nobody(p) || way < 0 || way > 3) {
                return BAD;
            }
            if (town.caught.contains(p) || !town.go(town.humans.get(p).twin(), way)) {
                return NOT;
            }
            town.remember();
            town.go(town.humans.get(p), way);
            return of(p, 1);
        }

        int free(int p) {
            if (nobody(p)) {
                return BAD;
            }
            if (!town.caught.contains(p)) {
                return NOT;
            }
            town.remember();
            town.caught.remove(p);
            return town.set();
        }

        int drift(int n) {
            if (n < 1 || n > 40) {
                return BAD;
            }
            if (town.humans.isEmpty()) {
                return NOT;
            }
            if (town.minute > 9999 - n) {
                return FULL;
            }
            for (int i = 0; i < n; i++) {
                town.remember();
                town.drift();
                town.minute();
            }
            return town.set();
        }

        int seed(int v) {
            if (v < 0) {
                return BAD;
            }
            int was = town.draw.intValueExact();
            town.draw = BigInteger.valueOf(v);
            return was;
        }

        int ahead(int n, int what) {
            if (n < 0 || n > 60 || what < 0 || what > 3) {
                return BAD;
            }
            Town t = town.twin(false);
            for (int i = 0; i < n; i++) {
                t.minute();
            }
            return new int[] {t.cell(), t.set(), t.right, t.wrong}[what];
        }

        int next(int what) {
            if (what < 0 || what > 2) {
                return BAD;
            }
            Town t = town.twin(false);
            for (int m = 1; m <= 60; m++) {
                int who = t.minute();
                if (who >= 0) {
                    Human h = t.humans.get(who);
                    return new int[] {who, m, t.named(h.look ^ h.disguise)}[what];
                }
            }
            return NONE;
        }

        int stand(int p, int what) {
            if (nobody(p) || what < 0 || what > 1) {
                return BAD;
            }
            if (town.caught.contains(p)) {
                return NOT;
            }
            int[] when = new int[town.rows * town.columns];
            for (int cell = 0; cell < when.length; cell++) {
                Town t = town.twin(false);
                t.humans.get(p).row = cell / t.columns;
                t.humans.get(p).column = cell % t.columns;
                when[cell] = t.when(p);
            }
            int latest = Arrays.stream(when).max().getAsInt();
            for (int cell = 0; what == 0; cell++) {
                if (when[cell] == latest) {
                    return cell;
                }
            }
            return latest;
        }

        int hush(int p, int n) {
            if (nobody(p) || n < 1 || n > 60) {
                return BAD;
            }
            if (town.caught.contains(p)) {
                return NOT;
            }
            for (int noise = town.humans.get(p).noise; noise >= 0; noise--) {
                Town t = town.twin(false);
                t.humans.get(p).noise = noise;
                if (t.when(p) > n) {
                    return town.humans.get(p).noise - noise;
                }
            }
            return NONE;
        }

        int mask(int p, int what) {
            if (nobody(p) || what < 0 || what > 1) {
                return BAD;
            }
            Human h = town.humans.get(p);
            for (int many = 0; many <= 6; many++) {
                for (int set = 0; set < 64; set++) {
                    if (unlike(set, 0) == many && town.named(h.look ^ h.disguise ^ set) != p) {
                        return what == 0 ? many : set;
                    }
                }
            }
            return NONE;
        }

        int alike(int k, int what) {
            if (k < 0 || k > 6 || what < 0 || what > 1) {
                return BAD;
            }
            TreeSet<Integer> pairs = new TreeSet<>();
            for (int j = 0; j < town.humans.size(); j++) {
                for (int i = 0; i < j; i++) {
                    if (unlike(town.humans.get(i).look, town.humans.get(j).look) <= k) {
                        pairs.add(10 * i + j);
                    }
                }
            }
            return howManyOrFirst(pairs, what);
        }

        int howManyOrFirst(TreeSet<Integer> found, int what) {
            return what == 0 ? found.size() : found.isEmpty() ? NONE : found.first();
        }

        Town from(int cell) {
            Town t = town.twin(false);
            t.row = cell / t.columns;
            t.column = cell % t.columns;
            return t;
        }

        int turned(int p, int what) {
            if (nobody(p) || what < 0 || what > 1) {
                return BAD;
            }
            TreeSet<Integer> cells = new TreeSet<>();
            for (int cell = town.rows * town.columns - 1; cell >= 0; cell--) {
                Model m = new Model();
                m.town = from(cell);
                if (m.next(0) == p) {
                    cells.add(cell);
                }
            }
            return howManyOrFirst(cells, what);
        }

        int luck(int p, int c, int what) {
            if (nobody(p) || c < 0 || c > 10 || what < 0 || what > 1) {
                return BAD;
            }
            long above = 0;
            long below = 0;
            int people = town.humans.size();
            for (int breathless = 0; breathless < 1 << people; breathless++) {
                long weight = 1;
                for (int i = 0; i < people; i++) {
                    weight *= (breathless >> i & 1) == 1 ? c : 10 - c;
                }
                below += weight;
                above += town.follows(breathless) == p ? weight : 0;
            }
            long shared = BigInteger.valueOf(above).gcd(BigInteger.valueOf(below)).longValue();
            return (int) ((what == 0 ? above : below) / shared);
        }

        int image() {
            kept = town.twin(true);
            return 1;
        }

        int restore() {
            if (kept == null) {
                return NONE;
            }
            town = kept.twin(true);
            return 1;
        }

        /** What the machine itself finds, of a row of a LANE. */
        int fault(int sheet, int lane, int i, int n) {
            try {
                Object row = sheets[sheet];
                row.hashCode();
                new Class<?>[] {byte[].class, short[].class, int[].class, long[].class}[lane].cast(row);
                System.arraycopy(row, i, row, i, n);
                return 0;
            } catch (NullPointerException e) {
                return NULL;
            } catch (ClassCastException e) {
                return CAST;
            } catch (IndexOutOfBoundsException e) {
                return INDEX;
            }
        }

        void put(Object row, int i, long v) {
            if (row instanceof byte[] b) {
                b[i] = (byte) v;
            } else if (row instanceof short[] s) {
                s[i] = (short) v;
            } else if (row instanceof int[] k) {
                k[i] = (int) v;
            } else if (row instanceof long[] l) {
                l[i] = v;
            }
        }

        boolean wrongSheet(int sheet, int lane) {
            return sheet < 0 || sheet > 3 || lane < 0 || lane > 3;
        }

        int seen(int sheet, int lane, int i, int n, int what) {
            if (wrongSheet(sheet, lane) || n < 1 || n > 8 || what < 0 || what > 1) {
                return BAD;
            }
            int fault = fault(sheet, lane, i, n);
            if (fault != 0) {
                return fault;
            }
            TreeSet<Integer> cells = new TreeSet<>();
            for (int cell = 0; cell < town.rows * town.columns; cell++) {
                Town t = from(cell);
                boolean so = true;
                for (int m = 0; m < n; m++) {
                    t.minute();
                    so &= Array.getLong(sheets[sheet], i + m) == t.cell();
                }
                if (so) {
                    cells.add(cell);
                }
            }
            return howManyOrFirst(cells, what);
        }

        int film(int n, int sheet, int lane, int i) {
            if (n < 1 || n > 24 || wrongSheet(sheet, lane)) {
                return BAD;
            }
            int fault = fault(sheet, lane, i, n);
            if (fault != 0) {
                return fault;
            }
            for (int m = 1; m <= n; m++) {
                put(sheets[sheet], i + m - 1, ahead(m, 0));
            }
            return n;
        }

        int sheet(int sheet, int lane, int n) {
            if (wrongSheet(sheet, lane) || n > 24) {
                return BAD;
            }
            try {
                Class<?>[] lanes = {byte.class, short.class, int.class, long.class};
                sheets[sheet] = Array.newInstance(lanes[lane], n);
                return n;
            } catch (NegativeArraySizeException e) {
                return SIZE;
            }
        }

        int drop(int sheet) {
            if (wrongSheet(sheet, 0)) {
                return BAD;
            }
            if (sheets[sheet] == null) {
                return NULL;
            }
            int had = Array.getLength(sheets[sheet]);
            sheets[sheet] = null;
            return had;
        }

        int item(int sheet, int lane, int i, long v) {
            if (wrongSheet(sheet, lane)) {
                return BAD;
            }
            int fault = fault(sheet, lane, i, 1);
            if (fault != 0) {
                return fault;
            }
            put(sheets[sheet], i, v);
            return 1;
        }

        int copy(int from, int i, int to, int j, int n) {
            if (wrongSheet(from, 0) || wrongSheet(to, 0)) {
                return BAD;
            }
            try {
                System.arraycopy(sheets[from], i, sheets[to], j, n);
                return n;
            } catch (NullPointerException e) {
                return NULL;
            } catch (ArrayStoreException e) {
                return CAST;
            } catch (IndexOutOfBoundsException e) {
                return INDEX;
            }
        }
    }

    /** A text is good as far as some CITY begins so: the matcher of one has then hit its end. */
    static final class CityTexts {
        private static final List<Pattern> ALL = all();

        private static List<Pattern> all() {
            List<Pattern> all = new ArrayList<>();
            for (int r = 2; r <= 6; r++) {
                for (int c = 2; c <= 6; c++) {
                    String cell = "[0-" + (r - 1) + "][0-" + (c - 1) + "]";
                    String one = "[psbhl]" + cell + "[0-9]a?b?c?d?e?f?";
                    all.add(Pattern.compile("[" + r + "]x[" + c + "]@" + cell + ";" + one
                            + ("(?:," + one).repeat(5) + ")?".repeat(5)));
                }
            }
            return all;
        }

        static boolean isWhole(String text) {
            for (Pattern p : ALL) {
                if (p.matcher(text).matches()) {
                    return true;
                }
            }
            return false;
        }

        static boolean isGood(String text) {
            for (Pattern p : ALL) {
                Matcher m = p.matcher(text);
                if (m.matches() || m.hitEnd()) {
                    return true;
                }
            }
            return false;
        }

        static int goodLetters(String text) {
            int good = 0;
            while (good < text.length() && isGood(text.substring(0, good + 1))) {
                good++;
            }
            return good;
        }
    }

    /** Draws a call with its arguments: mostly such as make sense, sometimes wild ones. */
    static final class Drawer {
        final Random random;
        final Model model;
        final int[] a = new int[5];
        long v;
        int call;

        Drawer(Random random, Model model) {
            this.random = random;
            this.model = model;
        }

        int near(int least, int most) {
            int luck = random.nextInt(60);
            if (luck == 0) {
                return new int[] {Integer.MIN_VALUE, Integer.MAX_VALUE, -1, 1 << 16}[random.nextInt(4)];
            }
            if (luck == 1) {
                return random.nextBoolean() ? least - 1 : most + 1;
            }
            return least + random.nextInt(most - least + 1);
        }

        int somebody() {
            return near(0, Math.max(0, model.town.humans.size() - 1));
        }

        int laneOf(int sheet) {
            if (random.nextInt(12) == 0 || sheet < 0 || sheet > 3 || model.sheets[sheet] == null) {
                return near(0, 3);
            }
            Object row = model.sheets[sheet];
            return row instanceof byte[] ? 0 : row instanceof short[] ? 1 : row instanceof int[] ? 2 : 3;
        }

        String text() {
            int r = 2 + random.nextInt(5);
            int c = 2 + random.nextInt(5);
            StringBuilder b = new StringBuilder().append(r).append('x').append(c).append('@');
            b.append(random.nextInt(r)).append(random.nextInt(c)).append(';');
            int people = 1 + random.nextInt(6);
            for (int p = 0; p < people; p++) {
                b.append(p == 0 ? "" : ",").append("psbhl".charAt(random.nextInt(5)));
                b.append(random.nextInt(r)).append(random.nextInt(c)).append(random.nextInt(10));
                for (char f = 'a'; f <= 'f'; f++) {
                    b.append(random.nextInt(3) == 0 ? "" + f : "");
                }
            }
            if (random.nextInt(3) == 0) {
                for (int n = random.nextInt(6); n > 0; n--) {
                    b.insert(random.nextInt(b.length() + 1), ' ');
                }
            }
            if (random.nextInt(3) == 0) {
                int at = random.nextInt(b.length());
                String letters = "0123456789x@;,psbhlabcdefgXA ~";
                switch (random.nextInt(4)) {
                    case 0 -> b.deleteCharAt(at);
                    case 1 -> b.setLength(at);
                    case 2 -> b.insert(at, letters.charAt(random.nextInt(letters.length())));
                    default -> b.setCharAt(at, letters.charAt(random.nextInt(letters.length())));
                }
            }
            return b.toString();
        }

        void draw() {
            int[] weights = {1, 6, 8, 8, 4, 1, 8, 10, 12, 8, 8, 8, 3, 5, 4, 4, 4, 6, 4, 4, 8, 2, 2, 10, 6, 6, 1, 8, 6};
            int left = random.nextInt(Arrays.stream(weights).sum());
            call = 0;
            while (left >= weights[call]) {
                left -= weights[call];
                call++;
            }
            int s = near(0, 3);
            int cells = model.town.rows * model.town.columns;
            v = random.nextInt(3) == 0 ? random.nextLong() : near(-1, cells) + (random.nextInt(4) == 0 ? 1L << 32 : 0);
            switch (call) {
                case 0 -> set(near(2, 6), near(2, 6));
                case 1 -> set(near(0, 4), near(0, cells - 1), near(0, 9), near(0, 63));
                case 2 -> set(somebody(), near(0, 8));
                case 3 -> set(somebody(), near(0, 1), random.nextBoolean() ? near(0, 9) : near(0, 63));
                case 4 -> set(near(32, 126));
                case 6 -> set(near(0, 9));
                case 7 -> set(random.nextInt(3) == 0 ? near(1, 40) : near(1, 3));
                case 8 -> set(somebody(), near(0, 3));
                case 9 -> set(somebody());
                case 10 -> set(random.nextInt(3) == 0 ? near(1, 40) : near(1, 3));
                case 12 -> set(random.nextInt(8) == 0 ? random.nextInt() : random.nextInt() & Integer.MAX_VALUE);
                case 13 -> set(near(0, 60), near(0, 3));
                case 14 -> set(near(0, 2));
                case 15, 17, 19 -> set(somebody(), near(0, 1));
                case 16 -> set(somebody(), near(1, 60));
                case 18 -> set(near(0, 6), near(0, 1));
                case 20 -> set(somebody(), near(0, 10), near(0, 1));
                case 23 -> set(s, laneOf(s), near(0, 12), random.nextBoolean() ? near(1, 2) : near(1, 8), near(0, 1));
                case 24 -> set(near(1, 12), s, laneOf(s), near(0, 10));
                case 25 -> set(s, near(0, 3), near(0, 24));
                case 26 -> set(s);
                case 27 -> set(s, laneOf(s), near(0, 20));
                case 28 -> set(s, near(0, 12), random.nextBoolean() ? s : near(0, 3), near(0, 12), near(0, 12));
                default -> set();
            }
        }

        void set(int... values) {
            Arrays.fill(a, 0);
            System.arraycopy(values, 0, a, 0, values.length);
        }

        int ofModel() {
            Model m = model;
            return switch (call) {
                case 0 -> m.streets(a[0], a[1]);
                case 1 -> m.person(a[0], a[1], a[2], a[3]);
                case 2 -> m.of(a[0], a[1]);
                case 3 -> m.rule(a[0], a[1], a[2]);
                case 4 -> m.type(a[0]);
                case 5 -> m.city();
                case 6 -> m.count(a[0]);
                case 7 -> m.minutes(a[0]);
                case 8 -> m.walk(a[0], a[1]);
                case 9 -> m.free(a[0]);
                case 10 -> m.drift(a[0]);
                case 11 -> m.town.undo();
                case 12 -> m.seed(a[0]);
                case 13 -> m.ahead(a[0], a[1]);
                case 14 -> m.next(a[0]);
                case 15 -> m.stand(a[0], a[1]);
                case 16 -> m.hush(a[0], a[1]);
                case 17 -> m.mask(a[0], a[1]);
                case 18 -> m.alike(a[0], a[1]);
                case 19 -> m.turned(a[0], a[1]);
                case 20 -> m.luck(a[0], a[1], a[2]);
                case 21 -> m.image();
                case 22 -> m.restore();
                case 23 -> m.seen(a[0], a[1], a[2], a[3], a[4]);
                case 24 -> m.film(a[0], a[1], a[2], a[3]);
                case 25 -> m.sheet(a[0], a[1], a[2]);
                case 26 -> m.drop(a[0]);
                case 27 -> m.item(a[0], a[1], a[2], v);
                default -> m.copy(a[0], a[1], a[2], a[3], a[4]);
            };
        }

        int ofClass(BlindBuff x) {
            return switch (call) {
                case 0 -> x.streets(a[0], a[1]);
                case 1 -> x.person(a[0], a[1], a[2], a[3]);
                case 2 -> x.of(a[0], a[1]);
                case 3 -> x.rule(a[0], a[1], a[2]);
                case 4 -> x.type(a[0]);
                case 5 -> x.city();
                case 6 -> x.count(a[0]);
                case 7 -> x.minutes(a[0]);
                case 8 -> x.walk(a[0], a[1]);
                case 9 -> x.free(a[0]);
                case 10 -> x.drift(a[0]);
                case 11 -> x.undo();
                case 12 -> x.seed(a[0]);
                case 13 -> x.ahead(a[0], a[1]);
                case 14 -> x.next(a[0]);
                case 15 -> x.stand(a[0], a[1]);
                case 16 -> x.hush(a[0], a[1]);
                case 17 -> x.mask(a[0], a[1]);
                case 18 -> x.alike(a[0], a[1]);
                case 19 -> x.turned(a[0], a[1]);
                case 20 -> x.luck(a[0], a[1], a[2]);
                case 21 -> x.image();
                case 22 -> x.restore();
                case 23 -> x.seen(a[0], a[1], a[2], a[3], a[4]);
                case 24 -> x.film(a[0], a[1], a[2], a[3]);
                case 25 -> x.sheet(a[0], a[1], a[2]);
                case 26 -> x.drop(a[0]);
                case 27 -> x.item(a[0], a[1], a[2], v);
                default -> x.copy(a[0], a[1], a[2], a[3], a[4]);
            };
        }

        String told() {
            String[] names = {"streets", "person", "of", "rule", "type", "city", "count", "minutes", "walk", "free",
                "drift", "undo", "seed", "ahead", "next", "stand", "hush", "mask", "alike", "turned", "luck", "image",
                "restore", "seen", "film", "sheet", "drop", "item", "copy"};
            return names[call] + Arrays.toString(a) + (call == 27 ? " " + v : "");
        }
    }

    /** Whether all answers of one run are alike; the run ends at the first that is not. */
    private static boolean isAlike(int number) {
        Random random = new Random(number);
        Model model = new Model();
        BlindBuff x = new BlindBuff();
        Drawer drawer = new Drawer(random, model);
        List<String> calls = new ArrayList<>();
        String text = "";
        for (int n = 0; n < CALLS; n++) {
            if (text.isEmpty() && (n == 0 && number % 4 != 0 || random.nextInt(80) == 0)) {
                text = drawer.text() + "\n";
            }
            if (!text.isEmpty()) {
                char letter = text.charAt(0);
                text = text.substring(1);
                drawer.call = letter == '\n' ? 5 : 4;
                drawer.set(letter);
            } else {
                drawer.draw();
            }
            int due = drawer.ofModel();
            int got = drawer.ofClass(x);
            calls.add(drawer.told() + " answered " + got);
            if (got != due) {
                System.out.println("run " + number + ", due is " + due + ":");
                calls.forEach(System.out::println);
                return false;
            }
        }
        return true;
    }

    public static void main(String[] args) {
        int runs = args.length > 0 ? Integer.parseInt(args[0]) : RUNS;
        for (int number = 0; number < runs; number++) {
            if (!isAlike(number)) {
                System.exit(1);
            }
        }
        System.out.println("all " + runs + " runs are as the model has them");
    }
}
