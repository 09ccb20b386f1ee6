/** Tests of the document's boundary cases: numbers just beyond a range, and objects in some usual states. */
abstract class Edges extends Quotes {
    static int[] beyond(int least, int most) {
        return new int[] {least - 1, most + 1, LOW, HIGH};
    }

    /** Nobody, and two MINUTES that may be UNDONE. */
    static BlindBuff idle() {
        BlindBuff x = new BlindBuff();
        x.minutes(2);
        return x;
    }

    /** Five people, one of them CAUGHT, on 4 x 5; an IMAGE; letters; a row of ints, one of bytes, an empty one, none. */
    static BlindBuff busy() {
        BlindBuff x = of("4x5@00;p000a,p011ab,s345c,h229,p310f");
        x.seed(12345);
        x.walk(4, 0);
        x.image();
        x.minutes(1);
        x.rule(1, 1, 2);
        x.walk(2, 0);
        type(x, "2x2@11;p00");
        x.sheet(0, 2, 3);
        x.film(3, 0, 2, 0);
        x.sheet(1, 0, 5);
        x.film(5, 1, 0, 0);
        x.sheet(2, 3, 0);
        return x;
    }

    /** Six people on 2 x 3, two of them CAUGHT. */
    static BlindBuff crowded() {
        BlindBuff x = of("2x3@00;p000,s000a,p021b,h120c,s110d,p120e");
        x.minutes(2);
        return x;
    }

    /** MINUTE 9999, one person, who is FREE. */
    static BlindBuff late() {
        BlindBuff x = of("2x2@00;p110");
        passTo(x, 9999);
        return x;
    }

    static void passTo(BlindBuff x, int minute) {
        int left = minute - x.count(4);
        for (; left > 40; left -= 40) {
            x.minutes(40);
        }
        x.minutes(left);
    }
}
