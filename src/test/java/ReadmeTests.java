import java.io.IOException;
import java.lang.reflect.Field;
import java.lang.reflect.Method;
import java.lang.reflect.Modifier;
import java.nio.file.Files;
import java.nio.file.Path;
import java.util.HashMap;
import java.util.Map;
import java.util.regex.Matcher;
import java.util.regex.Pattern;

// Makes the calls that README.md shows, and looks whether it names every call and constant of the face.
public final class ReadmeTests {
    private static final Pattern EXAMPLE = Pattern.compile("(?s)```java\n(.*?)```");
    private static final Pattern CALL = Pattern.compile("council\\.(\\w+)\\(([^)]*)\\); +// (-?\\d+)(?:, .*)?");

    private static int right = 0;
    private static int wrong = 0;

    private static void due(String what, Object got, Object want) {
        if (want.equals(got)) {
            right++;
        } else {
            wrong++;
            System.out.println(what + ": is " + got + ", due is " + want);
        }
    }

    private static Map<String, Method> calls() {
        Map<String, Method> calls = new HashMap<>();
        for (Method method : SwingWeights.class.getDeclaredMethods()) {
            if (Modifier.isPublic(method.getModifiers())) {
                calls.put(method.getName(), method);
            }
        }
        return calls;
    }

    private static Object argument(Class<?> type, String word) {
        if (type == boolean.class) {
            return Boolean.valueOf(word);
        }
        return type == char.class ? (Object) word.charAt(1) : (Object) Integer.valueOf(word);
    }

    private static Object[] arguments(Method method, String list) {
        String[] words = list.isEmpty() ? new String[0] : list.split(", ");
        Object[] arguments = new Object[words.length];
        for (int place = 0; place < words.length; place++) {
            arguments[place] = argument(method.getParameterTypes()[place], words[place]);
        }
        return arguments;
    }

    private static void example(String readme) throws ReflectiveOperationException {
        Matcher found = EXAMPLE.matcher(readme);
        due("there is an example", found.find(), true);
        SwingWeights council = new SwingWeights();
        for (String line : found.group(1).split("\n")) {
            Matcher call = CALL.matcher(line);
            if (call.matches()) {
                Method method = calls().get(call.group(1));
                due(line, method.invoke(council, arguments(method, call.group(2))), Integer.valueOf(call.group(3)));
            } else {
                due("a line of the example", line.isEmpty() || line.equals("SwingWeights council = new SwingWeights();"), true);
            }
        }
    }

    private static void names(String readme) {
        for (String name : calls().keySet()) {
            due(name + " is named", readme.contains("`" + name + "`"), true);
        }
        for (Field field : SwingWeights.class.getDeclaredFields()) {
            if (Modifier.isPublic(field.getModifiers())) {
                due(field.getName() + " is named", readme.contains("`" + field.getName() + "`"), true);
            }
        }
    }

    public static void main(String[] args) throws IOException, ReflectiveOperationException {
        String readme = Files.readString(Path.of("README.md"));
        example(readme);
        names(readme);
        System.out.println("ReadmeTests: " + right + " passed, " + wrong + " failed");
        if (wrong != 0) {
            System.exit(1);
        }
    }
}
