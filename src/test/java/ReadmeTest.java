import java.lang.reflect.Field;
import java.lang.reflect.Method;
import java.lang.reflect.Modifier;
import java.nio.file.Files;
import java.nio.file.Path;
import java.util.HashMap;
import java.util.Map;
import java.util.regex.Matcher;
import java.util.regex.Pattern;

/** README.md tells every member of the face, and its example answers what stands behind each call. */
public final class ReadmeTest {
    // A call of the example, perhaps named, with what it answers behind it.
    private static final Pattern CALL =
        Pattern.compile("(?:int (\\w+) = )?book\\.(\\w+)\\(([^)]*)\\);\\s*// (-?\\w+).*");
    private static final Map<String, Integer> NAMED = new HashMap<>();
    private static int wrong = 0;

    private static void due(String what, Object got, Object want) {
        if (!want.equals(got)) {
            wrong++;
            System.out.println(what + ": " + got + ", due is " + want);
        }
    }

    private static void tellsMembers(String text) throws IllegalAccessException {
        due("tells CampBook()", text.contains("`CampBook()`"), true);
        for (Field field : CampBook.class.getFields()) {
            String row = "| `" + field.getName() + "` | " + field.getInt(null) + " |";
            due("tells " + row, text.contains(row), true);
        }
        for (Method method : CampBook.class.getDeclaredMethods()) {
            if (Modifier.isPublic(method.getModifiers())) {
                tellsMethod(text, method);
            }
        }
    }

    private static void tellsMethod(String text, Method method) {
        Matcher row = Pattern.compile("\\| `" + method.getName() + "\\(([^)]*)\\)` \\|").matcher(text);
        boolean found = row.find();
        due("tells " + method.getName(), found, true);
        if (found) {
            int told = row.group(1).isEmpty() ? 0 : row.group(1).split(", ").length;
            due("parameters of " + method.getName(), told, method.getParameterCount());
        }
    }

    private static Method methodOf(String name) {
        for (Method method : CampBook.class.getDeclaredMethods()) {
            if (method.getName().equals(name)) {
                return method;
            }
        }
        throw new IllegalStateException("no such call: " + name);
    }

    private static Object valueOf(String word) {
        if (word.equals("true") || word.equals("false")) {
            return Boolean.valueOf(word);
        }
        return NAMED.containsKey(word) ? NAMED.get(word) : Integer.valueOf(word);
    }

    private static int answerOf(String word) throws ReflectiveOperationException {
        boolean constant = Character.isUpperCase(word.charAt(0));
        return constant ? CampBook.class.getField(word).getInt(null) : Integer.parseInt(word);
    }

    private static void runLine(CampBook book, String line) throws ReflectiveOperationException {
        Matcher call = CALL.matcher(line);
        if (!call.matches()) {
            due("a line that can't be read", line, "a call with its answer");
            return;
        }
        String[] words = call.group(3).isEmpty() ? new String[0] : call.group(3).split(", ");
        Object[] arguments = new Object[words.length];
        for (int i = 0; i < words.length; i++) {
            arguments[i] = valueOf(words[i]);
        }
        int got = (Integer) methodOf(call.group(2)).invoke(book, arguments);
        due(line, got, answerOf(call.group(4)));
        if (call.group(1) != null) {
            NAMED.put(call.group(1), got);
        }
    }

    private static void runExample(String text) throws ReflectiveOperationException {
        int from = text.indexOf("```java\n") + "```java\n".length();
        String[] lines = text.substring(from, text.indexOf("```", from)).split("\n");
        due("the example begins", lines[0], "CampBook book = new CampBook();");
        CampBook book = new CampBook();
        for (int i = 1; i < lines.length; i++) {
            runLine(book, lines[i]);
        }
    }

    public static void main(String[] args) throws Exception {
        String text = Files.readString(Path.of("README.md"));
        tellsMembers(text);
        runExample(text);
        System.out.println(wrong == 0 ? "README.md is as due" : wrong + " things in README.md are not as due");
        if (wrong != 0) {
            System.exit(1);
        }
    }
}
