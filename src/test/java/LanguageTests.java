import java.io.IOException;
import java.lang.reflect.Constructor;
import java.lang.reflect.Field;
import java.lang.reflect.Method;
import java.lang.reflect.Modifier;
import java.nio.file.Files;
import java.nio.file.Path;
import java.util.ArrayList;
import java.util.HashMap;
import java.util.List;
import java.util.Map;
import java.util.Random;
import java.util.Set;
import java.util.TreeSet;
import java.util.regex.Matcher;
import java.util.regex.Pattern;

// The public face of the document, and those rules of LANGUAGE.md that can be
// told from the class or its text. It is run from the project's root.
public final class LanguageTests {
    private static final Path SOURCE = Path.of("src/main/java/TupleSpace.java");

    private static final Set<String> FACE = Set.of(
        "int put(int,int,int)", "int ask(int,int,int)", "int given(int)", "boolean begin(int)",
        "boolean commit(int)", "boolean abort(int)", "boolean cancel(int)", "int pass(int)",
        "int count(int,int)", "int seen(int,int,int)", "int state(int)", "int place(int)",
        "int entries()", "int next()", "boolean level(int)");

    private static final Set<String> CONSTANTS = Set.of("BAD", "FULL", "BUSY", "NONE");

    private static final String[] FORBIDDEN = {
        "import", "package", "float", "double", "String", "Math", "Integer", "System", "Arrays", "Object",
        "null", "throw", "throws", "try", "catch", "finally", "synchronized", "assert", "instanceof",
        "interface", "enum", "record", "protected", "var", "Thread", "hashCode", "toString", "equals", "getClass"};

    private static final Set<String> NOT_CALLS = Set.of("if", "for", "while", "switch", "return");

    private static int wrong = 0;

    private static void must(boolean holds, String what) {
        if (!holds) {
            wrong++;
            System.out.println("broken: " + what);
        }
    }

    public static void main(String[] args) throws IOException {
        face();
        fields();
        String code = Files.readString(SOURCE).replaceAll("(?s)/\\*.*?\\*/", "").replaceAll("//[^\n]*", "");
        words(code);
        arrays(code);
        calls(code);
        neverThrows();
        System.out.println(wrong == 0 ? "the face and the language are kept" : wrong + " rules are broken");
        if (wrong != 0) {
            System.exit(1);
        }
    }

    private static String text(Method m) {
        List<String> types = new ArrayList<>();
        for (Class<?> type : m.getParameterTypes()) {
            types.add(type.getSimpleName());
        }
        return m.getReturnType().getSimpleName() + " " + m.getName() + "(" + String.join(",", types) + ")";
    }

    private static void face() {
        int flags = TupleSpace.class.getModifiers();
        must(Modifier.isPublic(flags) && Modifier.isFinal(flags), "the class is public and final");
        must(TupleSpace.class.getDeclaredClasses().length == 0, "no nested class");
        Constructor<?>[] makers = TupleSpace.class.getDeclaredConstructors();
        must(makers.length == 1 && Modifier.isPublic(makers[0].getModifiers())
            && makers[0].getParameterCount() == 0, "one public constructor without arguments");
        Set<String> found = new TreeSet<>();
        Set<String> publicNames = new TreeSet<>();
        Set<String> privateNames = new TreeSet<>();
        for (Method m : TupleSpace.class.getDeclaredMethods()) {
            must(m.getParameterCount() <= 7, "at most seven parameters: " + m.getName());
            if (Modifier.isPrivate(m.getModifiers())) {
                privateNames.add(m.getName());
                must(!m.getReturnType().isArray(), "no method answers an array: " + m.getName());
            } else {
                must(Modifier.isPublic(m.getModifiers()), "public or private: " + m.getName());
                found.add(text(m));
                publicNames.add(m.getName());
            }
        }
        must(found.equals(FACE), "the public methods are those of the document: " + found);
        privateNames.retainAll(publicNames);
        must(privateNames.isEmpty(), "no private method bears a public name: " + privateNames);
    }

    private static void fields() {
        Set<String> publics = new TreeSet<>();
        int others = 0;
        for (Field f : TupleSpace.class.getDeclaredFields()) {
            Class<?> type = f.getType();
            boolean isConstant = Modifier.isStatic(f.getModifiers());
            if (Modifier.isPublic(f.getModifiers())) {
                publics.add(f.getName());
            } else {
                must(Modifier.isPrivate(f.getModifiers()), "public or private: " + f.getName());
            }
            if (isConstant) {
                must(Modifier.isFinal(f.getModifiers()) && (type == int.class || type == long.class),
                    "static fields are constants of int or long: " + f.getName());
            } else {
                others++;
                Class<?> plain = type.isArray() ? type.getComponentType() : type;
                must(plain.isPrimitive(), "numbers, booleans and one-dimensional arrays: " + f.getName());
            }
        }
        must(publics.equals(CONSTANTS), "the public constants are those of the document: " + publics);
        must(others <= 40, "at most forty fields");
    }

    private static void words(String code) {
        for (String word : FORBIDDEN) {
            must(!Pattern.compile("\\b" + word + "\\b").matcher(code).find(), "a word that the rules leave out: " + word);
        }
        // Rule 3: a name of this form would be that of another class.
        must(!Pattern.compile("\\b(?!TupleSpace\\b)[A-Z]\\w*[a-z]\\w*").matcher(code).find(), "no other class is named");
        must(!code.contains("->") && !code.contains("::"), "no lambda or method reference");
        must(!code.contains("\""), "no text");
        must(code.chars().allMatch(ch -> ch < 128), "plain characters");
    }

    private static void arrays(String code) {
        for (String line : code.split("\n")) {
            if (Pattern.compile("\\bnew\\b").matcher(line).find()) {
                must(line.matches("    private final \\w+\\[\\] \\w+ = new \\w+\\[[A-Z_]+\\];"),
                    "arrays are made in the fields' initialisers: " + line.trim());
            }
        }
    }

    // Methods begin at an indent of four and end with a brace at the same one.
    private static void calls(String code) {
        Map<String, Set<String>> calledBy = new HashMap<>();
        Matcher method = Pattern.compile("(?ms)^    (?:public|private)[^=;\n]*?(\\w+)\\([^)]*\\) \\{\n(.*?)^    \\}").matcher(code);
        while (method.find()) {
            String body = method.group(2);
            must(body.lines().count() <= 60, "a short method: " + method.group(1));
            Set<String> called = calledBy.computeIfAbsent(method.group(1), name -> new TreeSet<>());
            Matcher call = Pattern.compile("\\b([a-zA-Z]\\w*)\\(").matcher(body);
            while (call.find()) {
                called.add(call.group(1));
                if (!NOT_CALLS.contains(call.group(1))) {
                    String inside = arguments(body, call.end());
                    must(!inside.contains("("), "no call inside the arguments of another: " + call.group(1));
                }
            }
        }
        must(calledBy.keySet().containsAll(Set.of("TupleSpace", "put", "level")), "the methods are found in the text");
        for (String name : calledBy.keySet()) {
            must(depth(name, calledBy, 0) <= 6, "calls go at most six deep, without recursion: " + name);
        }
    }

    private static String arguments(String body, int from) {
        int open = 1;
        int at = from;
        while (open > 0 && at < body.length()) {
            open += body.charAt(at) == '(' ? 1 : body.charAt(at) == ')' ? -1 : 0;
            at++;
        }
        return body.substring(from, at - 1);
    }

    private static int depth(String name, Map<String, Set<String>> calledBy, int above) {
        if (above > 10) {
            return above;
        }
        int deepest = above + 1;
        for (String called : calledBy.get(name)) {
            if (calledBy.containsKey(called)) {
                deepest = Math.max(deepest, depth(called, calledBy, above + 1));
            }
        }
        return deepest;
    }

    // An exception would end this test with an exit code of its own.
    private static void neverThrows() {
        int[] odd = {Integer.MIN_VALUE, -1, 4, 16, 17, 255, 256, 288, 289, Integer.MAX_VALUE};
        Random dice = new Random(1);
        TupleSpace x = new TupleSpace();
        for (int i = 0; i < 300000; i++) {
            int c = dice.nextInt(8) == 0 ? odd[dice.nextInt(odd.length)] : dice.nextInt(4);
            int a = dice.nextInt(8) == 0 ? odd[dice.nextInt(odd.length)] : dice.nextInt(256);
            int b = dice.nextInt(8) == 0 ? odd[dice.nextInt(odd.length)] : dice.nextInt(4);
            switch (dice.nextInt(15)) {
                case 0, 1 -> x.put(c, a, b);
                case 2 -> x.ask(c, b, a);
                case 3 -> x.given(c);
                case 4 -> x.begin(c);
                case 5 -> x.commit(c);
                case 6 -> x.abort(c);
                case 7 -> x.cancel(c);
                case 8 -> x.pass(b);
                case 9 -> x.count(c, a);
                case 10 -> x.seen(c, a, b);
                case 11 -> x.state(c);
                case 12 -> x.place(c);
                case 13 -> x.level(b);
                default -> x.next();
            }
            int there = x.entries();
            must(there >= 0 && there <= 20, "0 to 20 entries: " + there);
        }
    }
}
