import java.lang.reflect.Constructor;
import java.lang.reflect.Field;
import java.lang.reflect.Method;
import java.lang.reflect.Modifier;
import java.nio.file.Files;
import java.nio.file.Path;
import java.util.Arrays;
import java.util.Set;
import java.util.TreeSet;
import java.util.regex.Matcher;
import java.util.regex.Pattern;

/** The public face is the document's and no more; of LANGUAGE.md the rules that can be seen from outside, by number. */
public final class FaceTest {
    private static final String[] FACE = {
        "NUMBER -1", "FULL -2", "NONE -3", "TWICE -4", "new []",
        "child [int, int]", "change [int, int, int]", "leader []", "paper [int, int, int, int]",
        "lose [int, int]", "task [int, int]", "badge [int, int, int, int, int]",
        "sign [int, int, int, int]", "strike [int]", "of [int, int]", "done [int, int]", "held [int, int]",
        "lacks [int, int, int]", "badges [int, int]", "site [int, boolean]", "wish [int, int, int, int]",
        "free [int, int]", "ratio [int]", "plan [int]", "planned [int]", "many [int]", "keep []", "back []",
    };
    private static final String RULED_OUT =
        "\\b(throw|throws|try|catch|synchronized|assert|protected|package|Exact|Object|equals|hashCode|toString)\\b|->|::";

    private static Set<String> seenFace() throws IllegalAccessException {
        Set<String> seen = new TreeSet<>();
        for (Field field : CampBook.class.getDeclaredFields()) {
            if (!Modifier.isPrivate(field.getModifiers())) {
                seen.add(field.getName() + " " + field.getInt(null));
            }
        }
        for (Constructor<?> made : CampBook.class.getDeclaredConstructors()) {
            seen.add("new " + Arrays.toString(made.getParameterTypes()));
        }
        for (Method method : CampBook.class.getDeclaredMethods()) {
            if (!Modifier.isPrivate(method.getModifiers())) {
                seen.add(method.getName() + " " + Arrays.toString(method.getParameterTypes()));
            }
        }
        return seen;
    }

    private static int countPrivateTwins() {
        int twins = 0;
        Set<String> names = new TreeSet<>();
        for (Method method : CampBook.class.getMethods()) {
            names.add(method.getName());
        }
        for (Class<?> place : withInside()) {
            for (Method method : place.getDeclaredMethods()) {
                if (!Modifier.isPublic(method.getModifiers()) && names.contains(method.getName())) {
                    System.out.println("bears a public name: " + method);
                    twins++;
                }
            }
        }
        return twins;
    }

    private static Class<?>[] withInside() {
        Class<?>[] inside = CampBook.class.getDeclaredClasses();
        Class<?>[] all = Arrays.copyOf(inside, inside.length + 1);
        all[inside.length] = CampBook.class;
        return all;
    }

    private static int countRuledOut() throws java.io.IOException {
        int found = 0;
        String source = Files.readString(Path.of("src/main/java/CampBook.java"));
        Matcher matcher = Pattern.compile(RULED_OUT).matcher(source);
        while (matcher.find()) {
            System.out.println("ruled out: " + matcher.group());
            found++;
        }
        return found;
    }

    private static int broken = 0;

    private static void rule(int number, String where, boolean kept) {
        if (!kept) {
            System.out.println("rule " + number + ": " + where);
            broken++;
        }
    }

    private static void lookAtClasses() {
        rule(11, "classes", withInside().length <= 12);
        for (Class<?> place : withInside()) {
            rule(2, place.getName(), place == CampBook.class || Modifier.isStatic(place.getModifiers()));
            rule(2, "classes inside " + place.getName(), place == CampBook.class || place.getDeclaredClasses().length == 0);
            lookAtFields(place);
            for (Method method : place.getDeclaredMethods()) {
                rule(11, method.toString(), method.getParameterCount() <= 7);
            }
        }
    }

    private static void lookAtFields(Class<?> place) {
        Set<Class<?>> constants = Set.of(int.class, long.class, boolean.class, char.class, String.class);
        int own = 0;
        for (Field field : place.getDeclaredFields()) {
            if (Modifier.isStatic(field.getModifiers())) {
                rule(5, field.toString(), Modifier.isFinal(field.getModifiers()) && constants.contains(field.getType()));
            } else {
                own++;
            }
        }
        rule(11, "fields of " + place.getName(), own <= 20);
    }

    private static void lookAtSource() throws java.io.IOException {
        String source = Files.readString(Path.of("src/main/java/CampBook.java"));
        rule(3, "signs of the source", source.chars().allMatch(sign -> sign == '\n' || (sign >= 32 && sign < 127)));
        Matcher imported = Pattern.compile("import ([^;]*);").matcher(source);
        while (imported.find()) {
            rule(4, imported.group(1), imported.group(1).matches("java\\.util\\.(Arrays|ArrayList|List|Iterator)"));
        }
        Matcher body = Pattern.compile("(?ms)^( +)(?:public|private)[^;={]*\\) \\{\\n.*?^\\1\\}\\n").matcher(source);
        int bodies = 0;
        while (body.find()) {
            bodies++;
            rule(11, "length of " + body.group().lines().findFirst().orElse(""), body.group().lines().count() <= 60);
        }
        rule(11, "methods found", bodies > FACE.length - 5);
    }

    public static void main(String[] args) throws Exception {
        Set<String> due = new TreeSet<>(Arrays.asList(FACE));
        Set<String> seen = seenFace();
        boolean right = due.equals(seen);
        if (!right) {
            System.out.println("face: " + seen + ", due is " + due);
        }
        right &= Modifier.isFinal(CampBook.class.getModifiers()) && Modifier.isPublic(CampBook.class.getModifiers());
        right &= countPrivateTwins() == 0;
        right &= countRuledOut() == 0;
        lookAtClasses();
        lookAtSource();
        right &= broken == 0;
        System.out.println(right ? "the face is as due" : "the face is not as due");
        if (!right) {
            System.exit(1);
        }
    }
}
