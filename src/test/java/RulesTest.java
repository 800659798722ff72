import java.io.IOException;
import java.lang.reflect.Constructor;
import java.lang.reflect.Field;
import java.lang.reflect.Method;
import java.lang.reflect.Modifier;
import java.nio.file.Files;
import java.nio.file.Path;
import java.util.ArrayList;
import java.util.HashSet;
import java.util.List;
import java.util.Set;
import java.util.TreeSet;
import java.util.regex.Matcher;
import java.util.regex.Pattern;

/** The public face, and the rules of LANGUAGE.md that can be seen from the class and its source. */
public final class RulesTest {
    private static final Path SOURCE = Path.of("src/main/java/NetworkStates.java");
    private static final List<String> FACE = List.of(
            "int link(int,int,int)", "int unlink(int)", "int share(int,int)", "int hold(int,int)",
            "int clear()", "long weight(int)", "int states(int,int)", "long parts(int)",
            "long pairs()", "long pivotal(int,int)", "long worst(int)", "int worstState(int)",
            "int cuts(int,int)", "int trees()", "int forests(int)", "int colourings(int)",
            "int polynomial(int,int)");
    private static final List<String> RULED_OUT = List.of(
            "package", "import", "float", "double", "Math", "Integer", "Long", "String", "System",
            "Arrays", "Object", "null", "throw", "throws", "try", "catch", "finally",
            "synchronized", "assert", "instanceof", "interface", "enum", "record", "var", "this",
            "super", "getClass", "hashCode", "equals", "toString", "clone", "native");

    private static final Due due = new Due();

    public static void main(String[] args) throws IOException {
        Class<?> type = NetworkStates.class;
        publicFace(type);
        fields(type);
        methods(type);
        String source = withoutComments(Files.readString(SOURCE));
        words(source);
        arrays(source);
        callsInArguments(source);
        methodLengths(source);
        recursion(source, type);
        due.end();
    }

    private static void publicFace(Class<?> type) {
        due.holds("the class is public and final",
                Modifier.isPublic(type.getModifiers()) && Modifier.isFinal(type.getModifiers()));
        due.holds("the class extends nothing", type.getSuperclass() == Object.class);
        due.holds("the class implements nothing", type.getInterfaces().length == 0);
        due.holds("no nested class", type.getDeclaredClasses().length == 0);
        Constructor<?>[] constructors = type.getDeclaredConstructors();
        due.holds("one public constructor without parameters", constructors.length == 1
                && Modifier.isPublic(constructors[0].getModifiers())
                && constructors[0].getParameterCount() == 0);
        Set<String> seen = new TreeSet<>();
        for (Method m : type.getDeclaredMethods()) {
            if (!Modifier.isPrivate(m.getModifiers())) {
                due.holds(m + " is public, not static",
                        Modifier.isPublic(m.getModifiers()) && !Modifier.isStatic(m.getModifiers()));
                seen.add(signature(m));
            }
        }
        due.holds("the face is the document's, not " + seen, seen.equals(new TreeSet<>(FACE)));
    }

    private static String signature(Method m) {
        List<String> parameters = new ArrayList<>();
        for (Class<?> p : m.getParameterTypes()) {
            parameters.add(p.getName());
        }
        return m.getReturnType().getName() + " " + m.getName() + "(" + String.join(",", parameters) + ")";
    }

    private static void fields(Class<?> type) {
        int count = 0;
        for (Field f : type.getDeclaredFields()) {
            int modifiers = f.getModifiers();
            due.holds(f + " is private", Modifier.isPrivate(modifiers));
            if (Modifier.isStatic(modifiers)) {
                due.holds(f + " is a constant of int or long", Modifier.isFinal(modifiers)
                        && (f.getType() == int.class || f.getType() == long.class));
            } else {
                count++;
                Class<?> held = f.getType().isArray() ? f.getType().getComponentType() : f.getType();
                due.holds(f + " is a number or a row of numbers", held.isPrimitive());
                due.holds(f + " is final if it is a row",
                        !f.getType().isArray() || Modifier.isFinal(modifiers));
            }
        }
        due.holds("at most forty fields", count <= 40);
    }

    private static void methods(Class<?> type) {
        Set<String> publicNames = new HashSet<>();
        for (Method m : type.getMethods()) {
            publicNames.add(m.getName());
        }
        for (Method m : type.getDeclaredMethods()) {
            due.holds(m + " has at most seven parameters", m.getParameterCount() <= 7);
            due.holds(m + " answers no array", !m.getReturnType().isArray());
            if (Modifier.isPrivate(m.getModifiers())) {
                due.holds(m + " has a name of its own", !publicNames.contains(m.getName()));
            }
        }
    }

    private static String withoutComments(String source) {
        return source.replaceAll("(?s)/\\*.*?\\*/", "").replaceAll("//[^\n]*", "");
    }

    private static void words(String source) {
        for (String word : RULED_OUT) {
            due.holds("the word " + word + " is not used",
                    !Pattern.compile("\\b" + word + "\\b").matcher(source).find());
        }
        due.holds("no lambda", !source.contains("->"));
        due.holds("no method reference", !source.contains("::"));
        due.holds("no text", !source.contains("\""));
        due.holds("no annotation", !source.contains("@"));
        due.holds("no static initialiser", !Pattern.compile("static\\s*\\{").matcher(source).find());
        due.holds("one class", source.split("\\bclass\\b", -1).length == 2);
    }

    private static void arrays(String source) {
        Matcher made = Pattern.compile("(?m)^.*\\bnew\\b.*$").matcher(source);
        Pattern field = Pattern.compile("    private final (\\w+)\\[\\] \\w+ = new \\1\\[[A-Z_]+\\];");
        while (made.find()) {
            due.holds("made in a field's initialiser: " + made.group(),
                    field.matcher(made.group()).matches());
        }
        due.holds("no array of arrays", !source.contains("[][]"));
    }

    private static void callsInArguments(String source) {
        Matcher call = Pattern.compile("\\b([a-z]\\w*)\\(").matcher(source);
        while (call.find()) {
            int depth = 1;
            int end = call.end();
            while (depth > 0) {
                char c = source.charAt(end++);
                depth += c == '(' ? 1 : c == ')' ? -1 : 0;
            }
            String inside = source.substring(call.end(), end - 1);
            due.holds("no call inside " + call.group(1) + "(" + inside + ")",
                    !Pattern.compile("\\b[a-z]\\w*\\(").matcher(inside).find());
        }
    }

    private static void methodLengths(String source) {
        int length = 0;
        for (String line : source.split("\n")) {
            length++;
            if (line.matches("    (public|private) .*\\{")) {
                length = 1;
            }
            if (line.equals("    }")) {
                due.holds("a method of " + length + " lines is short", length <= 60);
            }
        }
    }

    /** Takes away methods that call none of those left; in six rounds none may be left. */
    private static void recursion(String source, Class<?> type) {
        Set<String> names = new TreeSet<>();
        for (Method m : type.getDeclaredMethods()) {
            names.add(m.getName());
        }
        for (int round = 0; round < 6; round++) {
            Set<String> left = new TreeSet<>();
            for (String name : names) {
                String body = bodyOf(name, source);
                for (String called : names) {
                    if (Pattern.compile("\\b" + called + "\\(").matcher(body).find()) {
                        left.add(name);
                    }
                }
            }
            names = left;
        }
        due.holds("calls go at most six deep and none comes back: " + names, names.isEmpty());
    }

    private static String bodyOf(String name, String source) {
        Matcher m = Pattern.compile("(?s)\n    (?:public|private)[^\n;=]* " + name
                + "\\([^\n]*\\{\n(.*?)\n    \\}").matcher(source);
        boolean found = m.find();
        due.holds("the body of " + name + " is found", found);
        return found ? m.group(1) : "";
    }
}
