import java.io.IOException;
import java.lang.reflect.Constructor;
import java.lang.reflect.Field;
import java.lang.reflect.Method;
import java.lang.reflect.Modifier;
import java.nio.file.Files;
import java.nio.file.Path;
import java.util.Arrays;
import java.util.List;
import java.util.Set;
import java.util.TreeSet;
import java.util.regex.Matcher;
import java.util.regex.Pattern;

// The face of the class, and those rules of LANGUAGE.md that can be seen from outside or in the source's words.
public final class FaceTests {
    private static final Path SOURCE = Path.of("src/main/java/SwingWeights.java");
    private static final String[] METHODS = {"addMember(int)", "removeMember(int)", "setWeight(int,int)",
        "setVeto(int,boolean)", "setQuota(int)", "join(int,int)", "leave(int)", "type(char)", "clearText()", "vote()",
        "undo()", "keep()", "restore()", "member(int,int)", "share(int,int)", "wins(int)", "leastCoalition(int,int)",
        "ranked(int)", "withQuota(int,int)", "leavesOut(int,int)", "fairest()", "ballot(int,int)", "count(int)"};
    private static final String[] CONSTANTS = {"UNKNOWN", "BAD_VALUE", "FULL", "NOT_POSSIBLE", "NONE"};
    private static final String[] REFUSED = {"\\bthrow\\b", "\\bthrows\\b", "\\btry\\b", "\\bcatch\\b", "\\bfinally\\b",
        "\\bsynchronized\\b", "\\bvolatile\\b", "\\btransient\\b", "\\bnative\\b", "\\bassert\\b", "\\bpackage\\b",
        "->", "::", "\\bvar\\b", "\\bObject\\b", "\\bSystem\\.(?!arraycopy)", "Exact\\b", "\\bequals\\b", "\\bhashCode\\b",
        "\\btoString\\b", "static *\\{", "@", "\\bprotected\\b", "[^\\x00-\\x7f]", "\\bMath\\.random\\b", "\\bThread\\b"};

    private static int right = 0;
    private static int wrong = 0;

    private static void due(String what, Object got, Object want) {
        if (want.equals(got)) {
            right++;
        } else {
            wrong++;
            System.out.println(what + ": is " + got + ", due is " + want);
        }
    }

    private static String signature(Method method) {
        StringBuilder text = new StringBuilder(method.getName()).append("(");
        for (Class<?> type : method.getParameterTypes()) {
            text.append(text.charAt(text.length() - 1) == '(' ? "" : ",").append(type.getName());
        }
        return text.append(")").toString();
    }

    private static void face() {
        Set<String> methods = new TreeSet<>();
        Set<String> fields = new TreeSet<>();
        for (Method method : SwingWeights.class.getDeclaredMethods()) {
            if (!Modifier.isPrivate(method.getModifiers())) {
                methods.add(signature(method));
                due(method + " is public and answers an int", Modifier.toString(method.getModifiers())
                    + method.getReturnType(), "publicint");
            }
        }
        for (Field field : SwingWeights.class.getDeclaredFields()) {
            if (!Modifier.isPrivate(field.getModifiers())) {
                fields.add(field.getName());
                due(field.getName(), Modifier.toString(field.getModifiers()) + field.getType(), "public static finalint");
            }
        }
        due("methods", methods, new TreeSet<>(Arrays.asList(METHODS)));
        due("constants", fields, new TreeSet<>(Arrays.asList(CONSTANTS)));
        due("the class", Modifier.toString(SwingWeights.class.getModifiers()), "public final");
        Constructor<?>[] constructors = SwingWeights.class.getDeclaredConstructors();
        due("constructors", constructors.length, 1);
        due("the constructor", constructors[0].toString(), "public SwingWeights()");
    }

    private static void classesInside() {
        Class<?>[] inside = SwingWeights.class.getDeclaredClasses();
        due("at most 12 classes: " + inside.length, inside.length <= 11, true);
        Set<String> publicNames = new TreeSet<>();
        for (String method : METHODS) {
            publicNames.add(method.substring(0, method.indexOf('(')));
        }
        for (Class<?> one : inside) {
            due(one + " is static", Modifier.isStatic(one.getModifiers()), true);
            due(one + " is not public", Modifier.isPublic(one.getModifiers()), false);
            members(one, publicNames);
        }
        for (Method method : SwingWeights.class.getDeclaredMethods()) {
            due(method + " has at most 7 parameters", method.getParameterCount() <= 7, true);
            due(method + ": a private one with a public name",
                Modifier.isPrivate(method.getModifiers()) && publicNames.contains(method.getName()), false);
        }
        members(SwingWeights.class, Set.of());
    }

    private static void members(Class<?> one, Set<String> publicNames) {
        int fields = 0;
        for (Field field : one.getDeclaredFields()) {
            int modifiers = field.getModifiers();
            if (!Modifier.isStatic(modifiers)) {
                fields++;
            } else {
                due(field + " is final", Modifier.isFinal(modifiers), true);
            }
        }
        due(one + " has at most 20 fields", fields <= 20, true);
        for (Method method : one.getDeclaredMethods()) {
            due(method + " has no name of the face", publicNames.contains(method.getName()), false);
        }
    }

    private static void source() throws IOException {
        String whole = Files.readString(SOURCE);
        String code = whole.replaceAll("(?s)/\\*.*?\\*/", "").replaceAll("//[^\n]*", "");
        for (String refused : REFUSED) {
            Matcher found = Pattern.compile(refused).matcher(code);
            due("the source holds " + refused, found.find() ? found.group() : "nothing", "nothing");
        }
        Matcher imports = Pattern.compile("import ([^;]*);").matcher(code);
        while (imports.find()) {
            due("import", List.of("java.util.Arrays", "java.util.ArrayList", "java.util.List").contains(imports.group(1)), true);
        }
        methodLengths(code.split("\n"));
    }

    private static void methodLengths(String[] lines) {
        Pattern head = Pattern.compile("^( {4}| {8})[^ ].*\\) \\{$");
        for (int first = 0; first < lines.length; first++) {
            Matcher found = head.matcher(lines[first]);
            if (found.matches()) {
                int last = first;
                while (!lines[last].equals(found.group(1) + "}")) {
                    last++;
                }
                due(lines[first].trim() + " has at most 60 lines", last - first < 60, true);
            }
        }
    }

    public static void main(String[] args) throws IOException {
        face();
        classesInside();
        source();
        System.out.println("FaceTests: " + right + " passed, " + wrong + " failed");
        if (wrong != 0) {
            System.exit(1);
        }
    }
}
