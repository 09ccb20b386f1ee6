import java.lang.management.ManagementFactory;
import java.lang.reflect.Field;
import java.lang.reflect.Method;
import java.lang.reflect.Modifier;
import java.nio.charset.StandardCharsets;
import java.nio.file.Files;
import java.nio.file.Path;
import java.util.ArrayList;
import java.util.List;
import java.util.TreeSet;
import java.util.regex.Matcher;
import java.util.regex.Pattern;

/** The rules of LANGUAGE.md that can be looked up: the face, the words of the source, and the room that runs take. */
public final class LanguageTest {
    private static final String FACE = "streets/2 person/4 of/2 rule/3 type/1 city/0 count/1 minutes/1 walk/2 free/1"
            + " drift/1 undo/0 seed/1 ahead/2 next/1 stand/2 hush/2 mask/2 alike/2 turned/2 luck/3 image/0 restore/0"
            + " seen/5 film/4 sheet/3 drop/1 item/4 copy/5";
    private static final String CONSTANTS = "BAD=-1 NOT=-2 FULL=-3 NONE=-4 NULL=-11 CAST=-12 INDEX=-13 SIZE=-14";
    private static final String[] FORBIDDEN = {"import", "package", "throw", "throws", "try", "catch", "finally",
        "synchronized", "assert", "volatile", "native", "instanceof", "double", "float", "hashCode", "toString",
        "equals", "protected", "Object", "Random", "Thread", "File", "MAX_VALUE", "MIN_VALUE", "while (true)", "->",
        "::", "Exact(", "@Suppress", "System.out", "nanoTime", "currentTimeMillis", "for (;;)"};

    private static int wrong = 0;

    private static void due(boolean holds, String what) {
        if (!holds) {
            wrong++;
            System.out.println("not so: " + what);
        }
    }

    private static void theFace() throws IllegalAccessException {
        Class<?> c = BlindBuff.class;
        due(Modifier.isPublic(c.getModifiers()) && Modifier.isFinal(c.getModifiers()), "rule 1: a public final class");
        due(c.getDeclaredConstructors().length == 1 && c.getConstructors().length == 1, "rule 1: one public constructor");
        TreeSet<String> names = new TreeSet<>();
        TreeSet<String> calls = new TreeSet<>();
        for (Method m : c.getDeclaredMethods()) {
            if (Modifier.isPublic(m.getModifiers())) {
                names.add(m.getName());
                calls.add(m.getName() + "/" + m.getParameterCount());
                due(m.getReturnType() == int.class && !Modifier.isStatic(m.getModifiers()), "the face: " + m);
                for (int i = 0; i < m.getParameterCount(); i++) {
                    Class<?> type = m.getName().equals("item") && i == 3 ? long.class : int.class;
                    due(m.getParameterTypes()[i] == type, "the face: " + m);
                }
            }
        }
        due(calls.equals(new TreeSet<>(List.of(FACE.split(" ")))), "the face has " + calls);
        for (Method m : c.getDeclaredMethods()) {
            boolean hidden = Modifier.isPrivate(m.getModifiers()) && !names.contains(m.getName());
            due(Modifier.isPublic(m.getModifiers()) || hidden || m.isSynthetic(), "rule 1: " + m);
        }
        StringBuilder constants = new StringBuilder();
        for (Field f : c.getDeclaredFields()) {
            if (Modifier.isPublic(f.getModifiers())) {
                constants.append(constants.isEmpty() ? "" : " ").append(f.getName()).append('=').append(f.getInt(null));
                due(Modifier.isStatic(f.getModifiers()) && Modifier.isFinal(f.getModifiers()), "rule 1: " + f);
            } else {
                due(Modifier.isPrivate(f.getModifiers()), "rule 1: " + f);
            }
        }
        due(constants.toString().equals(CONSTANTS), "the constants are " + constants);
    }

    private static void theClassesInside() {
        List<Class<?>> all = new ArrayList<>(List.of(BlindBuff.class.getDeclaredClasses()));
        due(all.size() < 12, "rule 11: at most some twelve classes");
        for (Class<?> c : all) {
            due(Modifier.isStatic(c.getModifiers()) && !Modifier.isPublic(c.getModifiers()), "rule 1: " + c);
        }
        all.add(BlindBuff.class);
        for (Class<?> c : all) {
            int fields = 0;
            for (Field f : c.getDeclaredFields()) {
                boolean isStatic = Modifier.isStatic(f.getModifiers());
                fields += isStatic ? 0 : 1;
                due(!isStatic || Modifier.isFinal(f.getModifiers()), "rule 5: " + f);
            }
            due(fields <= 20, "rule 11: at most some twenty fields in " + c);
            for (Method m : c.getDeclaredMethods()) {
                due(m.getParameterCount() <= 7, "rule 11: at most seven parameters: " + m);
            }
        }
    }

    private static void theWords(List<String> lines) {
        Pattern head = Pattern.compile("^( {4}| {8})[a-zA-Z].*\\) \\{$");
        int start = -1;
        String indent = "";
        for (int i = 0; i < lines.size(); i++) {
            String line = lines.get(i);
            due(line.chars().allMatch(c -> c >= 32 && c < 127), "line " + (i + 1) + " is of plain signs");
            String code = line.replaceAll("//.*$", "").replaceAll("^\\s*/?\\*.*$", "").replaceAll("\"[^\"]*\"", "\"\"");
            for (String word : FORBIDDEN) {
                boolean isName = Character.isLetter(word.charAt(0)) && Character.isLetter(word.charAt(word.length() - 1));
                boolean found = isName ? Pattern.compile("\\b" + word + "\\b").matcher(code).find() : code.contains(word);
                due(!found, "line " + (i + 1) + " has no " + word);
            }
            Matcher m = head.matcher(line);
            if (start < 0 && m.matches()) {
                start = i;
                indent = m.group(1);
            } else if (start >= 0 && line.equals(indent + "}")) {
                due(i - start < 60, "rule 11: the method of line " + (start + 1) + " is short");
                start = -1;
            }
        }
    }

    private static void typed(BlindBuff x, String text) {
        for (int i = 0; i < text.length(); i++) {
            x.type(text.charAt(i));
        }
        x.city();
    }

    /** All calls that might be dear, so often that an object or a row made in one of them would be seen. */
    private static int dearCalls(BlindBuff x) {
        int sum = 0;
        for (int i = 0; i < 20; i++) {
            typed(x, "6x6@00;p559abc,s058,b503bf,h549abcdef,l337ab,p229e");
            sum += x.stand(0, 0) + x.turned(1, 0) + x.hush(2, 60) + x.mask(3, 1) + x.luck(4, 3, 1) + x.alike(3, 0);
            sum += x.next(0) + x.ahead(60, 1) + x.image() + x.restore() + x.drift(40) + x.minutes(40) + x.undo();
            sum += x.sheet(i % 4, i % 4, 24) + x.film(24, i % 4, i % 4, 0) + x.seen(i % 4, i % 4, 0, 8, 0);
            sum += x.copy(i % 4, 0, i % 4, 1, 20) + x.item(i % 4, i % 4, 3, 9L) + x.drop(i % 4) + x.streets(5, 5);
        }
        return sum;
    }

    private static void theRoom() {
        com.sun.management.ThreadMXBean beans = (com.sun.management.ThreadMXBean) ManagementFactory.getThreadMXBean();
        BlindBuff x = new BlindBuff();
        dearCalls(x);
        long id = Thread.currentThread().getId();
        long before = beans.getThreadAllocatedBytes(id);
        BlindBuff y = new BlindBuff();
        long made = beans.getThreadAllocatedBytes(id);
        dearCalls(y);
        long after = beans.getThreadAllocatedBytes(id);
        due(made - before < 16384, "a new object takes little room, not " + (made - before) + " bytes");
        due(after - made < 4096, "calls take no room of their own, not " + (after - made) + " bytes");
    }

    public static void main(String[] args) throws Exception {
        theFace();
        theClassesInside();
        theWords(Files.readAllLines(Path.of("src/main/java/BlindBuff.java"), StandardCharsets.ISO_8859_1));
        theRoom();
        System.out.println(wrong == 0 ? "the language is kept" : wrong + " rules are not kept");
        if (wrong != 0) {
            System.exit(1);
        }
    }
}
