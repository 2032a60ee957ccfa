import java.lang.reflect.Field;
import java.lang.reflect.Method;
import java.lang.reflect.Modifier;
import java.nio.file.Files;
import java.nio.file.Path;
import java.util.Map;
import java.util.Set;
import java.util.TreeMap;
import java.util.TreeSet;
import java.util.regex.Matcher;
import java.util.regex.Pattern;

/** README.md: each row of its example answers what stands beside it, and the public face is named whole. */
public final class ReadmeTest {
    private static final Path README = Path.of("README.md");
    private static final Pattern ROW = Pattern.compile("x\\.(\\w+)\\((.*)\\); +// ([-\\w]+)(:.*)?");

    public static void main(String[] args) throws Exception {
        String text = Files.readString(README);
        Map<String, Method> methods = new TreeMap<>();
        for (Method method : RelationTuples.class.getDeclaredMethods()) {
            if (Modifier.isPublic(method.getModifiers())) {
                methods.put(method.getName(), method);
            }
        }
        example(text, methods);
        face(text, methods);
        Due.end();
    }

    private static void example(String text, Map<String, Method> methods) throws Exception {
        RelationTuples x = new RelationTuples();
        Set<String> called = new TreeSet<>();
        for (String line : text.split("\n")) {
            Matcher row = ROW.matcher(line);
            Due.holds("the row can be read: " + line, row.matches() || !line.startsWith("x."));
            if (row.matches()) {
                called.add(row.group(1));
                Object got = methods.get(row.group(1)).invoke(x, arguments(row.group(2)));
                Due.answer("README.md: " + line, (Integer) got, number(row.group(3)));
            }
        }
        Due.holds("the example calls every method: " + called, called.equals(methods.keySet()));
    }

    private static Object[] arguments(String list) {
        if (list.isEmpty()) {
            return new Object[0];
        }
        String[] words = list.split(", ");
        Object[] values = new Object[words.length];
        for (int i = 0; i < words.length; i++) {
            values[i] = words[i].matches("true|false") ? (Object) Boolean.valueOf(words[i]) : Integer.valueOf(words[i]);
        }
        return values;
    }

    private static int number(String word) throws Exception {
        if (word.matches("[A-Z]+")) {
            return RelationTuples.class.getField(word).getInt(null);
        }
        return word.startsWith("0b") ? Integer.parseInt(word.substring(2), 2) : Integer.parseInt(word);
    }

    private static void face(String text, Map<String, Method> methods) throws Exception {
        for (Method method : methods.values()) {
            Pattern call = Pattern.compile("\\| `" + method.getName() + "\\(([\\w, ]*)\\)` \\|");
            Matcher found = call.matcher(text);
            boolean named = found.find();
            int parameters = named && !found.group(1).isEmpty() ? found.group(1).split(", ").length : 0;
            Due.holds(method + " has its row", named && parameters == method.getParameterCount());
        }
        for (Field field : RelationTuples.class.getFields()) {
            String row = "| `" + field.getName() + "` (" + field.getInt(null) + ") |";
            Due.holds("there is a row that begins " + row, text.contains("\n" + row));
        }
        Due.holds("the constructor has its row", text.contains("\n| `RelationTuples()` |"));
        Due.holds("-3 has its row", text.contains("\n| -3 |"));
    }
}
