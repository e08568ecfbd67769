import java.io.IOException;
import java.lang.reflect.Constructor;
import java.lang.reflect.Field;
import java.lang.reflect.Method;
import java.lang.reflect.Modifier;
import java.nio.file.Files;
import java.nio.file.Path;
import java.util.ArrayDeque;
import java.util.ArrayList;
import java.util.Deque;
import java.util.LinkedHashMap;
import java.util.List;
import java.util.Map;
import java.util.Set;
import java.util.TreeSet;
import java.util.regex.Matcher;
import java.util.regex.Pattern;

// The class's face, and the rules of LANGUAGE.md that can be seen in its source. Run from the project's root.
public final class RulesTest {
    private static final Path SOURCE = Path.of("src/main/java/ChangeRooms.java");

    private static final Set<String> FACE = Set.of(
            "insert(int,int,int)", "delete(int,int)", "revert(int)", "commit(int)", "uncommit(int,int)",
            "pull(int,int,int)", "changes()", "lines(int)", "line(int,int)", "source(int,int)", "text(int,int)",
            "has(int,int)", "needs(int,int)", "weight(int)", "canPull(int,int,int)", "compare(int,int)",
            "unrecorded(int)");

    private static final Set<String> ALLOWED_WORDS = Set.of(
            "public", "private", "static", "final", "class", "int", "long", "short", "byte", "char", "boolean",
            "void", "new", "if", "else", "for", "while", "do", "switch", "case", "default", "break", "continue",
            "return", "true", "false");

    private static final Set<String> NO_CALLS = Set.of("if", "for", "while", "switch", "return");

    private static int wrong = 0;

    private static void want(boolean holds, String rule) {
        if (!holds) {
            wrong++;
            System.out.println("broken: " + rule);
        }
    }

    private static void checkFace() {
        Class<?> c = ChangeRooms.class;
        want(c.getModifiers() == (Modifier.PUBLIC | Modifier.FINAL), "the class is public and final");
        want(c.getSuperclass() == Object.class && c.getInterfaces().length == 0, "it extends nothing");
        want(c.getDeclaredClasses().length == 0, "no nested class");
        Constructor<?>[] constructors = c.getDeclaredConstructors();
        want(constructors.length == 1 && constructors[0].getParameterCount() == 0
                && Modifier.isPublic(constructors[0].getModifiers()), "one public constructor");
        Set<String> face = new TreeSet<>();
        Set<String> names = new TreeSet<>();
        for (Method method : c.getDeclaredMethods()) {
            if (Modifier.isPrivate(method.getModifiers())) {
                continue;
            }
            want(method.getModifiers() == Modifier.PUBLIC, "just public: " + method);
            want(method.getReturnType() == int.class, "answers an int: " + method);
            face.add(signature(method));
            names.add(method.getName());
        }
        want(face.equals(FACE), "the face is the document's: " + face);
        for (Method method : c.getDeclaredMethods()) {
            if (Modifier.isPrivate(method.getModifiers())) {
                want(!names.contains(method.getName()), "no private method has a public name: " + method);
                want(!method.getReturnType().isArray(), "no array is answered: " + method);
                want(method.getParameterCount() <= 7, "at most seven parameters: " + method);
            }
        }
        checkFields(c.getDeclaredFields());
    }

    private static String signature(Method method) {
        List<String> types = new ArrayList<>();
        for (Class<?> type : method.getParameterTypes()) {
            types.add(type.getName());
        }
        return method.getName() + "(" + String.join(",", types) + ")";
    }

    private static void checkFields(Field[] fields) {
        int held = 0;
        for (Field field : fields) {
            Class<?> type = field.getType();
            want(Modifier.isPrivate(field.getModifiers()), "fields are private: " + field);
            if (Modifier.isStatic(field.getModifiers())) {
                want(Modifier.isFinal(field.getModifiers()) && (type == int.class || type == long.class),
                        "static fields are constants of int or long: " + field);
            } else {
                held++;
                want(type.isPrimitive() || type.isArray() && type.getComponentType().isPrimitive(),
                        "numbers and one-dimensional arrays of numbers: " + field);
                want(!type.isArray() || Modifier.isFinal(field.getModifiers()), "arrays are final: " + field);
            }
        }
        want(held <= 40, "at most forty fields");
    }

    private static List<String> tokens(String source) {
        String bare = source.replaceAll("(?s)/\\*.*?\\*/", " ").replaceAll("//[^\n]*", " ");
        List<String> tokens = new ArrayList<>();
        Matcher matcher = Pattern.compile("[A-Za-z_$][\\w$]*|\\d\\w*|->|::|[^\\s\\w]").matcher(bare);
        while (matcher.find()) {
            tokens.add(matcher.group());
        }
        return tokens;
    }

    private static boolean isWord(String token) {
        return Character.isJavaIdentifierStart(token.charAt(0));
    }

    private static boolean isCall(List<String> tokens, int open) {
        String before = tokens.get(open - 1);
        return tokens.get(open).equals("(") && isWord(before) && !NO_CALLS.contains(before);
    }

    private static void checkTokens(List<String> tokens) {
        for (String token : tokens) {
            want(!Set.of(".", "\"", "'", "@", "->", "::").contains(token), "the token " + token + " is not used");
            want(!isWord(token) || ALLOWED_WORDS.contains(token) || isOwnName(token), "the word " + token);
        }
        Deque<Boolean> calls = new ArrayDeque<>();
        for (int i = 0; i < tokens.size(); i++) {
            if (tokens.get(i).equals("(")) {
                boolean call = isCall(tokens, i);
                want(!call || !calls.contains(true), "no call inside a call's arguments: " + tokens.get(i - 1));
                calls.push(call);
            } else if (tokens.get(i).equals(")")) {
                calls.pop();
            }
        }
    }

    private static void checkArrays(List<String> tokens) {
        int depth = 0;
        for (int i = 0; i < tokens.size(); i++) {
            String token = tokens.get(i);
            if (token.equals("{")) {
                depth++;
            } else if (token.equals("}")) {
                depth--;
            } else if (token.equals("new")) {
                String length = tokens.get(i + 3);
                boolean constant = length.matches("[1-9]\\d*|[A-Z][A-Z_]*");
                want(depth == 1 && tokens.get(i - 1).equals("="), "arrays are made in fields' initialisers");
                want(constant && tokens.get(i + 4).equals("]"), "an array's length is a constant: " + length);
            }
        }
    }

    /** Stricter than the rule: every loop is a for over a counter of its own that nothing else moves. */
    private static void checkLoops(List<String> tokens) {
        for (int i = 0; i < tokens.size(); i++) {
            want(!tokens.get(i).equals("while") && !tokens.get(i).equals("do"), "loops have a counter in their head");
            if (tokens.get(i).equals("for")) {
                checkLoop(tokens, i);
            }
        }
    }

    private static void checkLoop(List<String> tokens, int start) {
        String counter = tokens.get(start + 3);
        int open = start;
        while (!tokens.get(open).equals("{")) {
            open++;
        }
        String head = String.join(" ", tokens.subList(start, open));
        String form = "for \\( int C = [^;]*; [^;]*\\bC\\b[^;]* [<>] [^;]*; C (\\+ \\+|- -) \\)";
        want(head.matches(form.replace("C", counter)), "a counter runs against a bound: " + head);
        int depth = 1;
        for (int i = open + 1; depth > 0; i++) {
            depth += tokens.get(i).equals("{") ? 1 : tokens.get(i).equals("}") ? -1 : 0;
            want(!tokens.get(i).equals(counter) || !isMoved(tokens, i), "nothing else moves the counter of: " + head);
        }
    }

    private static boolean isMoved(List<String> tokens, int at) {
        String near = String.join(" ", tokens.subList(at + 1, at + 4));
        String before = tokens.get(at - 2) + tokens.get(at - 1);
        return near.matches("= [^=].*|[-+*/%&|^] = .*|\\+ \\+.*|- -.*|(< <|> >|> > >) =.*")
                || before.equals("++") || before.equals("--");
    }

    /** Own names are the class's, those of constants, and those that begin small and are no Java word. */
    private static boolean isOwnName(String token) {
        Set<String> forbidden = Set.of("float", "double", "null", "throw", "throws", "try", "catch", "finally",
                "synchronized", "assert", "instanceof", "import", "package", "interface", "enum", "record", "var",
                "this", "super", "protected", "abstract", "native", "volatile", "transient", "hashCode", "equals",
                "toString", "getClass", "notify", "notifyAll", "wait", "clone", "finalize");
        boolean constant = token.equals(token.toUpperCase());
        boolean small = Character.isLowerCase(token.charAt(0));
        return token.equals("ChangeRooms") || constant || small && !forbidden.contains(token);
    }

    /** Each method's body, by name: the class has no two methods of one name. */
    private static Map<String, List<String>> bodies(List<String> tokens) {
        Map<String, List<String>> bodies = new LinkedHashMap<>();
        int depth = 0;
        String name = "";
        for (int i = 0; i < tokens.size(); i++) {
            String token = tokens.get(i);
            if (token.equals("{")) {
                depth++;
            } else if (token.equals("}")) {
                depth--;
            } else if (depth == 1 && isWord(token) && tokens.get(i + 1).equals("(")) {
                name = token;
                want(bodies.put(name, new ArrayList<>()) == null, "one method of a name: " + name);
            }
            if (depth >= 2) {
                bodies.get(name).add(token);
            }
        }
        return bodies;
    }

    private static void checkCalls(List<String> tokens) {
        Map<String, List<String>> bodies = bodies(tokens);
        Map<String, Set<String>> calls = new LinkedHashMap<>();
        bodies.forEach((name, body) -> {
            Set<String> called = new TreeSet<>();
            for (int i = 1; i < body.size(); i++) {
                if (isCall(body, i)) {
                    called.add(body.get(i - 1));
                }
            }
            want(bodies.keySet().containsAll(called), name + " calls own methods alone: " + called);
            calls.put(name, called);
        });
        for (String name : calls.keySet()) {
            int depth = depth(name, calls, 1);
            want(depth <= 6, name + " calls at most six deep: " + depth);
        }
    }

    private static int depth(String name, Map<String, Set<String>> calls, int above) {
        if (above > 50) {
            return above;
        }
        int deepest = above;
        for (String called : calls.get(name)) {
            deepest = Math.max(deepest, depth(called, calls, above + 1));
        }
        return deepest;
    }

    private static void checkMethodLengths(String source) {
        int start = 0;
        String[] lines = source.split("\n");
        for (int i = 0; i < lines.length; i++) {
            if (lines[i].matches("    (public|private) .*\\{")) {
                start = i;
            } else if (lines[i].equals("    }")) {
                want(i - start <= 60, "methods stay short: " + lines[start].trim());
            }
        }
    }

    public static void main(String[] args) throws IOException {
        String source = Files.readString(SOURCE);
        List<String> tokens = tokens(source);
        checkFace();
        checkTokens(tokens);
        checkArrays(tokens);
        checkLoops(tokens);
        checkCalls(tokens);
        checkMethodLengths(source);
        System.out.println(wrong == 0 ? "all rules are kept" : wrong + " rules are broken");
        if (wrong != 0) {
            System.exit(1);
        }
    }
}
