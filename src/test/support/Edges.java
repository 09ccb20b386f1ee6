import java.io.IOException;
import java.lang.annotation.ElementType;
import java.lang.annotation.Retention;
import java.lang.annotation.RetentionPolicy;
import java.lang.annotation.Target;
import java.lang.reflect.InvocationTargetException;
import java.lang.reflect.Method;
import java.nio.charset.StandardCharsets;
import java.nio.file.Files;
import java.nio.file.Path;
import java.util.ArrayList;
import java.util.BitSet;
import java.util.Comparator;
import java.util.List;
import java.util.regex.Matcher;
import java.util.regex.Pattern;

/** Tests of the document's boundary cases: each has a sentence of the document, which it quotes. */
abstract class Edges extends Desk {
    /** The promise (0: what stands ahead of promise 1) and the words of it that the test is for. */
    @Retention(RetentionPolicy.RUNTIME)
    @Target(ElementType.METHOD)
    @interface Sentence {
        int promise();

        String words();
    }

    private static final Path DOCUMENT = Path.of("../shared/DOC.md");
    private static final Pattern RANGE = Pattern.compile("\\b\\w+ (\\.\\.|to) (\\w+)\\b");
    private static final Pattern REFUSAL = Pattern.compile("\\b(BAD|NOT|FULL|NONE|NULL|CAST|INDEX|SIZE|FAULT)\\b");

    static void runAll(Class<?> tests, int leastPromise, int mostPromise) throws IOException, IllegalAccessException {
        List<Method> methods = new ArrayList<>();
        for (Method m : tests.getDeclaredMethods()) {
            if (m.isAnnotationPresent(Sentence.class)) {
                methods.add(m);
            }
        }
        methods.sort(Comparator.comparingInt((Method m) -> sentence(m).promise()).thenComparing(Method::getName));
        for (Method m : methods) {
            begin("promise " + sentence(m).promise() + ", " + m.getName() + ", '" + sentence(m).words() + "'");
            try {
                m.invoke(null);
            } catch (InvocationTargetException e) {
                holds(false, "nothing is thrown: " + e.getCause());
            }
        }
        if (Files.exists(DOCUMENT)) {
            compareWithDocument(methods, leastPromise, mostPromise);
        }
        end(methods.size() + " boundary cases are as due");
    }

    private static Sentence sentence(Method m) {
        return m.getAnnotation(Sentence.class);
    }

    /** Each quote stands in the document, and each range and each refusal of the document is quoted. */
    private static void compareWithDocument(List<Method> tests, int least, int most) throws IOException {
        String[] parts = Files.readString(DOCUMENT, StandardCharsets.UTF_8).split("## Promise \\d+:|## Not promised");
        for (int promise = least; promise <= most; promise++) {
            begin("promise " + promise + " of the document");
            String part = parts[promise].replaceAll("(?s)```java.*?```", "").replaceAll("\\s+", " ");
            BitSet quoted = new BitSet();
            for (Method m : tests) {
                if (sentence(m).promise() == promise) {
                    holds(part.contains(sentence(m).words()), "it says '" + sentence(m).words() + "'");
                    mark(quoted, part, sentence(m).words());
                }
            }
            demand(quoted, part, RANGE);
            // the Terms only say what the refusals are called
            if (promise > 0) {
                demand(quoted, part, REFUSAL);
            }
        }
    }

    private static void mark(BitSet quoted, String part, String words) {
        for (int at = part.indexOf(words); at >= 0; at = part.indexOf(words, at + 1)) {
            quoted.set(at, at + words.length());
        }
    }

    private static void demand(BitSet quoted, String part, Pattern pattern) {
        Matcher found = pattern.matcher(part);
        while (found.find()) {
            boolean isEdge = pattern == REFUSAL || isBound(found.group(2));
            boolean isQuoted = quoted.get(found.start()) && quoted.nextClearBit(found.start()) >= found.end();
            holds(!isEdge || isQuoted, "a test quotes '" + found.group() + "'");
        }
    }

    /** Whether 'to' or '..' leads to a bound: a number, 'all', or the last of the letters. */
    private static boolean isBound(String word) {
        return word.matches("\\d+|all|f");
    }

    static int[] beyond(int least, int most) {
        return new int[] {least - 1, most + 1, LOW, HIGH};
    }

    /** Nobody, and two MINUTES that may be UNDONE. */
    static BlindBuff idle() {
        BlindBuff x = new BlindBuff();
        x.minutes(2);
        return x;
    }

    /** Five people, one of them CAUGHT, on 4 x 5; an IMAGE; letters; a row of ints, one of bytes, an empty one, none. */
    static BlindBuff busy() {
        BlindBuff x = of("4x5@00;p000a,p011ab,s345c,h229,p310f");
        x.seed(12345);
        x.walk(4, 0);
        x.image();
        x.minutes(1);
        x.rule(1, 1, 2);
        x.walk(2, 0);
        type(x, "2x2@11;p00");
        x.sheet(0, 2, 3);
        x.film(3, 0, 2, 0);
        x.sheet(1, 0, 5);
        x.film(5, 1, 0, 0);
        x.sheet(2, 3, 0);
        return x;
    }

    /** Six people on 2 x 3, two of them CAUGHT. */
    static BlindBuff crowded() {
        BlindBuff x = of("2x3@00;p000,s000a,p021b,h120c,s110d,p120e");
        x.minutes(2);
        return x;
    }

    /** MINUTE 9999, one person, who is FREE. */
    static BlindBuff late() {
        BlindBuff x = of("2x2@00;p110");
        passTo(x, 9999);
        return x;
    }

    static void passTo(BlindBuff x, int minute) {
        int left = minute - x.count(4);
        for (; left > 40; left -= 40) {
            x.minutes(40);
        }
        x.minutes(left);
    }
}
