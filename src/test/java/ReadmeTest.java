import java.io.IOException;
import java.lang.reflect.Method;
import java.lang.reflect.Modifier;
import java.nio.charset.StandardCharsets;
import java.nio.file.Files;
import java.nio.file.Path;
import java.util.TreeSet;
import java.util.regex.Matcher;
import java.util.regex.Pattern;

/** What README.md shows: each example answers what stands beside it, and each call of the face is in the table. */
public final class ReadmeTest extends Desk {
    private static final Pattern TEXT = Pattern.compile("String text = \"(.*)\";");
    private static final Pattern CALL = Pattern.compile("x\\.(\\w+)\\((.*)\\);\\s+// (-?\\w+).*");
    private static final Pattern ROW = Pattern.compile("(?m)^\\| `(\\w+)\\((.*?)\\)` \\|");
    private static final Pattern ANSWER = Pattern.compile("(?m)^\\| `(\\w+)` \\| (-\\d+) \\|");
    private static final String NEW = "BlindBuff x = new BlindBuff();";
    private static final String TYPED = "for (int i = 0; i < text.length(); i++) x.type(text.charAt(i));";

    private static int examples = 0;
    private static final TreeSet<String> shown = new TreeSet<>();

    private static Method method(String name) {
        for (Method m : BlindBuff.class.getDeclaredMethods()) {
            if (m.getName().equals(name) && Modifier.isPublic(m.getModifiers())) {
                return m;
            }
        }
        throw new IllegalArgumentException("there is no call " + name);
    }

    private static int answer(String word) throws ReflectiveOperationException {
        return word.matches("-?\\d+") ? Integer.parseInt(word) : BlindBuff.class.getField(word).getInt(null);
    }

    private static void example(BlindBuff x, String line) throws ReflectiveOperationException {
        begin("README.md, " + line);
        Matcher call = CALL.matcher(line);
        if (!call.matches()) {
            holds(false, "this is a call with its answer");
            return;
        }
        Method m = method(call.group(1));
        String[] words = call.group(2).isEmpty() ? new String[0] : call.group(2).split(", ");
        Object[] arguments = new Object[words.length];
        for (int i = 0; i < words.length; i++) {
            if (m.getParameterTypes()[i] == long.class) {
                arguments[i] = Long.valueOf(words[i].replace("L", ""));
            } else {
                arguments[i] = Integer.valueOf(words[i]);
            }
        }
        due((Integer) m.invoke(x, arguments), answer(call.group(3)));
        examples++;
        shown.add(m.getName());
    }

    private static void block(String code) throws ReflectiveOperationException {
        BlindBuff x = null;
        String text = "";
        for (String line : code.strip().split("\n")) {
            Matcher told = TEXT.matcher(line);
            if (line.equals(NEW)) {
                x = new BlindBuff();
            } else if (told.matches()) {
                text = told.group(1);
            } else if (line.equals(TYPED)) {
                type(x, text);
            } else {
                example(x, line);
            }
        }
    }

    private static void table(String page) throws ReflectiveOperationException {
        begin("README.md, all calls");
        TreeSet<String> rows = new TreeSet<>();
        Matcher row = ROW.matcher(page);
        while (row.find()) {
            int many = row.group(2).isEmpty() ? 0 : row.group(2).split(",").length;
            due(method(row.group(1)).getParameterCount(), many);
            rows.add(row.group(1));
        }
        for (Method m : BlindBuff.class.getDeclaredMethods()) {
            if (Modifier.isPublic(m.getModifiers())) {
                holds(rows.contains(m.getName()), m.getName() + " is in the table");
            }
        }
        due(rows.size(), 29);
        int answers = 0;
        Matcher named = ANSWER.matcher(page);
        while (named.find()) {
            due(Integer.parseInt(named.group(2)), answer(named.group(1)));
            answers++;
        }
        due(answers, 8);
    }

    public static void main(String[] args) throws IOException, ReflectiveOperationException {
        String page = Files.readString(Path.of("README.md"), StandardCharsets.UTF_8);
        Matcher code = Pattern.compile("(?s)```java\n(.*?)```").matcher(page);
        while (code.find()) {
            block(code.group(1));
        }
        begin("README.md");
        holds(examples >= 40, "there are examples: " + examples);
        table(page);
        end(examples + " examples of " + shown.size() + " calls are as README.md has them");
    }
}
