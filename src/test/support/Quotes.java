import java.io.IOException;
import java.lang.annotation.ElementType;
import java.lang.annotation.Retention;
import java.lang.annotation.RetentionPolicy;
import java.lang.annotation.Target;
import java.lang.reflect.InvocationTargetException;
import java.lang.reflect.Method;
import java.nio.charset.StandardCharsets;
import java.nio.file.Files;
import java.nio.file.Path;
import java.util.ArrayList;
import java.util.BitSet;
import java.util.Comparator;
import java.util.List;
import java.util.regex.Matcher;
import java.util.regex.Pattern;

/** Tests that quote the document: each has a sentence of it, and the quotes are compared with it. */
abstract class Quotes extends Desk {
    /** The promise (0: what stands ahead of promise 1) and the words of it that the test is for. */
    @Retention(RetentionPolicy.RUNTIME)
    @Target(ElementType.METHOD)
    @interface Sentence {
        int promise();

        String words();
    }

    private static final Path DOCUMENT = Path.of("../shared/DOC.md");
    private static final Pattern RANGE = Pattern.compile("\\b\\w+ (\\.\\.|to) (\\d+|all|f)\\b");
    private static final Pattern REFUSAL = Pattern.compile("\\b(BAD|NOT|FULL|NONE|NULL|CAST|INDEX|SIZE|FAULT)\\b");
    private static final Pattern WORD = Pattern.compile("[A-Za-z0-9']+");
    // LanguageTest compares the face with the class; the interface's own headings tell of nothing that a call does.
    private static final String[] HEADINGS = {"(?s)```java.*?```", "```(text)?", "(?m)^#+ .*$", "==== \\d ",
        "Ahead of the calls [a-z`, ]+ the interface says: ---- (1 streets, people\\.|what is done\\.|2 foretold\\.|3 )"};
    private static final String CALL = "^[A-Za-z ]+`[^`]+`: ";

    /** The tests of the document's edges: each range and each refusal that it names has to be quoted. */
    static void runEdges(Class<?> tests, int least, int most) throws IOException, IllegalAccessException {
        run(tests, least, most, false);
    }

    /** The tests of the whole document: each word of it has to be quoted. */
    static void runWhole(Class<?> tests, int least, int most) throws IOException, IllegalAccessException {
        run(tests, least, most, true);
    }

    private static void run(Class<?> tests, int least, int most, boolean whole)
            throws IOException, IllegalAccessException {
        List<Method> methods = new ArrayList<>();
        for (Method m : tests.getDeclaredMethods()) {
            if (m.isAnnotationPresent(Sentence.class)) {
                methods.add(m);
            }
        }
        methods.sort(Comparator.comparingInt((Method m) -> sentence(m).promise()).thenComparing(Method::getName));
        for (Method m : methods) {
            String words = sentence(m).words();
            String start = words.length() <= 80 ? words : words.substring(0, 80) + "..";
            begin("promise " + sentence(m).promise() + ", " + m.getName() + ", '" + start + "'");
            try {
                m.invoke(null);
            } catch (InvocationTargetException e) {
                holds(false, "nothing is thrown: " + e.getCause());
            }
        }
        if (Files.exists(DOCUMENT)) {
            compareWithDocument(methods, least, most, whole);
        }
        end(methods.size() + " tests of sentences are as due");
    }

    private static Sentence sentence(Method m) {
        return m.getAnnotation(Sentence.class);
    }

    private static void compareWithDocument(List<Method> tests, int least, int most, boolean whole) throws IOException {
        String[] parts = Files.readString(DOCUMENT, StandardCharsets.UTF_8).split("## Promise \\d+:|## Not promised");
        due(parts.length, 32);
        for (int promise = least; promise <= most; promise++) {
            begin("promise " + promise + " of the document");
            String part = promise < parts.length ? plain(parts[promise]) : "";
            BitSet quoted = new BitSet();
            for (Method m : tests) {
                if (sentence(m).promise() == promise) {
                    holds(part.contains(sentence(m).words()), "it says '" + sentence(m).words() + "'");
                    mark(quoted, part, sentence(m).words());
                }
            }
            if (whole) {
                demand(quoted, part, WORD);
                continue;
            }
            demand(quoted, part, RANGE);
            // the Terms only say what the refusals are called
            if (promise > 0) {
                demand(quoted, part, REFUSAL);
            }
        }
    }

    /** A part of the document, without its headings, its lines joined. */
    private static String plain(String part) {
        String text = part;
        for (String heading : HEADINGS) {
            text = text.replaceAll(heading, " ");
        }
        return text.replaceAll("\\s+", " ").trim().replaceFirst(CALL, "");
    }

    private static void mark(BitSet quoted, String part, String words) {
        for (int at = part.indexOf(words); at >= 0; at = part.indexOf(words, at + 1)) {
            quoted.set(at, at + words.length());
        }
    }

    private static void demand(BitSet quoted, String part, Pattern pattern) {
        Matcher found = pattern.matcher(part);
        while (found.find()) {
            boolean isQuoted = quoted.get(found.start()) && quoted.nextClearBit(found.start()) >= found.end();
            int from = Math.max(0, found.start() - 30);
            int to = Math.min(part.length(), found.end() + 30);
            holds(isQuoted, "a test quotes '" + found.group() + "' of '.." + part.substring(from, to) + "..'");
        }
    }
}
