import java.io.IOException;
import java.lang.reflect.Field;
import java.lang.reflect.Method;
import java.lang.reflect.Modifier;
import java.nio.charset.StandardCharsets;
import java.nio.file.Files;
import java.nio.file.Path;
import java.util.HashMap;
import java.util.Map;
import java.util.Set;
import java.util.TreeSet;
import java.util.regex.Matcher;
import java.util.regex.Pattern;

/** The face, and rules of LANGUAGE.md that can be read off the file or the class; .ci/run starts it in the project's root. */
public final class LanguageTest {
    private static final String[] FORBIDDEN = {
        "throw", "try", "catch", "finally", "synchronized", "assert", "package", "native", "volatile", "transient",
        "protected", "record", "var", "Object", "\\w+Exact", "Random", "Thread", "hashCode", "toString"};
    /** The face's calls, each with how many numbers it takes. */
    private static final String FACE = "write 1 wipe 0 fault 0 lay 0 room 2 clock 3 door 2 person 2 thing 2 worth 2 stay 2 go 2 "
            + "take 2 put 2 undo 0 meet 3 early 4 ring 1 even 0 round 3 hour 3 agreed 3 shelf 2 seen 3 forget 0 paces 1 look 2 "
            + "mended 1 day 3 keep 0 back 0 count 1";
    private static final Set<String> LIBRARY = Set.of("String.length", "String.charAt", "Math.max", "Math.min",
            "Math.floorMod", "Integer.bitCount", "Arrays.fill", "System.arraycopy");
    private static final int DEEPEST = 8;

    public static void main(String[] args) throws IOException {
        String source = Files.readString(Path.of("src/main/java/RoomsOfHours.java"), StandardCharsets.US_ASCII);
        String code = source.replaceAll("(?s)/\\*.*?\\*/", "").replaceAll("//[^\n]*", "").replaceAll("\"[^\"\n]*\"", "\"\"");
        for (String word : FORBIDDEN) {
            Due.due("the word " + word, Pattern.compile("\\b" + word + "\\b").matcher(code).find() ? 1 : 0, 0);
        }
        Due.due("a lambda or a reference to a method", code.contains("->") || code.contains("::") ? 1 : 0, 0);
        Matcher imports = Pattern.compile("import ([\\w.]+);").matcher(code);
        while (imports.find()) {
            Due.due("import " + imports.group(1), imports.group(1).equals("java.util.Arrays") ? 1 : 0, 1);
        }
        checkLibrary(code);
        checkTextsAndRows(code);
        checkLoops(code);
        checkDepth(code);
        Set<String> face = checkFace();
        Due.due("public constructors", RoomsOfHours.class.getConstructors().length, 1);
        Due.due("constructors", RoomsOfHours.class.getDeclaredConstructors().length, 1);
        Due.due("is final", Modifier.isFinal(RoomsOfHours.class.getModifiers()) ? 1 : 0, 1);
        Due.due("some twelve classes at most", RoomsOfHours.class.getDeclaredClasses().length < 12 ? 1 : 0, 1);
        checkMethodLengths(source);
        checkClass(RoomsOfHours.class, face, true);
        for (Class<?> inner : RoomsOfHours.class.getDeclaredClasses()) {
            Due.due(inner + " is static", Modifier.isStatic(inner.getModifiers()) ? 1 : 0, 1);
            checkClass(inner, face, false);
        }
        Due.end();
    }

    private static Set<String> checkFace() {
        Set<String> face = new TreeSet<>();
        Map<String, Integer> told = new HashMap<>();
        String[] words = FACE.split(" ");
        for (int n = 0; n + 1 < words.length; n += 2) {
            told.put(words[n], Integer.valueOf(words[n + 1]));
        }
        for (Method method : RoomsOfHours.class.getDeclaredMethods()) {
            if (Modifier.isPublic(method.getModifiers())) {
                String name = method.getName();
                Due.due(name + " is of the face, once", told.containsKey(name) && face.add(name) ? 1 : 0, 1);
                Due.due("numbers of " + name, method.getParameterCount(), told.getOrDefault(name, -1));
                Due.due(name + " answers an int", method.getReturnType() == int.class ? 1 : 0, 1);
                Due.due(name + " is a call on an object", Modifier.isStatic(method.getModifiers()) ? 1 : 0, 0);
                for (Class<?> type : method.getParameterTypes()) {
                    Due.due(name + " takes ints", type == int.class ? 1 : 0, 1);
                }
            }
        }
        Due.due("public methods", face.size(), told.size());
        return face;
    }

    /** Rule 4: what is called is of the file itself or of the part of the library that the class uses. */
    private static void checkLibrary(String code) {
        Set<String> own = methodBodies(code).keySet();
        Matcher call = Pattern.compile("(\\w+)\\.(\\w+)\\(").matcher(code);
        while (call.find()) {
            String of = call.group(1).equals("HOUSE_AT_FIRST") ? "String" : call.group(1);
            boolean known = LIBRARY.contains(of + "." + call.group(2));
            boolean ofLibrary = Character.isUpperCase(of.charAt(0));
            Due.due(call.group() + " is known", known || (!ofLibrary && own.contains(call.group(2))) ? 1 : 0, 1);
        }
    }

    /** Rules 6, 10 and 12: texts are not joined by +, no object is cast to a class, and no call makes one. */
    private static void checkTextsAndRows(String code) {
        Due.due("texts joined by +", Pattern.compile("\"\"\\s*\\+|\\+\\s*\"\"").matcher(code).find() ? 1 : 0, 0);
        Due.due("a cast to a class", Pattern.compile("\\([A-Z]\\w*\\) *[\\w(]").matcher(code).find() ? 1 : 0, 0);
        for (Map.Entry<String, String> method : methodBodies(code).entrySet()) {
            boolean makes = Pattern.compile("\\bnew\\b").matcher(method.getValue()).find();
            Due.due(method.getKey() + " makes no object", makes ? 1 : 0, 0);
        }
    }

    /** Rule 9: every loop tells its end. */
    private static void checkLoops(String code) {
        Due.due("while (true)", Pattern.compile("while *\\( *true").matcher(code).find() ? 1 : 0, 0);
        Matcher loop = Pattern.compile("\\bfor \\(([^;]*);([^;]*);([^;]*)\\) \\{").matcher(code);
        int read = 0;
        while (loop.find()) {
            read++;
            Due.due("its end is told: " + loop.group(), loop.group(2).contains("<") || loop.group(2).contains(">") ? 1 : 0, 1);
            Due.due("it goes on: " + loop.group(), loop.group(3).isBlank() ? 0 : 1, 1);
        }
        Due.due("loops read", read, code.split("\\bfor \\(").length - 1);
    }

    /** Rules 8 and 11: no call comes back to itself, and calls go eight deep at most; methods of one name count as one. */
    private static void checkDepth(String code) {
        Map<String, String> bodies = methodBodies(code);
        Due.due("methods read", bodies.size() > 80 ? 1 : 0, 1);
        for (String name : bodies.keySet()) {
            Due.due(name + " goes some calls deep at most", depthOf(name, bodies, 0) <= DEEPEST ? 1 : 0, 1);
        }
    }

    private static int depthOf(String name, Map<String, String> bodies, int above) {
        int deepest = 0;
        Matcher call = Pattern.compile("(\\w+)\\(").matcher(bodies.get(name));
        while (above <= DEEPEST && call.find()) {
            if (bodies.containsKey(call.group(1))) {
                deepest = Math.max(deepest, depthOf(call.group(1), bodies, above + 1));
            }
        }
        return 1 + deepest;
    }

    /** The lines of each method behind its head; those of one name together. */
    private static Map<String, String> methodBodies(String code) {
        Map<String, String> bodies = new HashMap<>();
        Matcher method = Pattern.compile("(?m)^((?: {4}){1,2})(?:\\w+ )*(\\w+)\\([^()]*\\) \\{\\n((?:.*\\n)*?)\\1\\}$").matcher(code);
        while (method.find()) {
            bodies.merge(method.group(2), method.group(3), String::concat);
        }
        return bodies;
    }

    private static void checkMethodLengths(String source) {
        String[] lines = source.split("\n");
        Pattern head = Pattern.compile("( +)[^/* ].*\\) \\{");
        for (int n = 0; n < lines.length; n++) {
            Matcher method = head.matcher(lines[n]);
            boolean is = method.matches() && !lines[n].matches(" +(if|for|while|switch|\\}).*");
            int end = n;
            while (is && end + 1 < lines.length && !lines[end].equals(method.group(1) + "}")) {
                end++;
            }
            Due.due("line " + (n + 1) + " begins a method of some sixty lines at most", end - n < 60 ? 1 : 0, 1);
        }
    }

    private static void checkClass(Class<?> type, Set<String> face, boolean outer) {
        int own = 0;
        for (Field field : type.getDeclaredFields()) {
            int is = field.getModifiers();
            own += Modifier.isStatic(is) ? 0 : 1;
            if (Modifier.isStatic(is)) {
                Due.due(field + " is final", Modifier.isFinal(is) ? 1 : 0, 1);
            }
            if (outer && !Modifier.isPrivate(is)) {
                Due.due(field + " is of the face", Set.of("BAD", "NO", "FULL", "NONE").contains(field.getName()) ? 1 : 0, 1);
            }
        }
        Due.due(type + " has some twenty fields at most", own <= 20 ? 1 : 0, 1);
        for (Method method : type.getDeclaredMethods()) {
            boolean open = Modifier.isPublic(method.getModifiers());
            if (outer && !open) {
                Due.due(method + " is private", Modifier.isPrivate(method.getModifiers()) ? 1 : 0, 1);
            }
            Due.due(method + " bears its own name", !open && face.contains(method.getName()) ? 1 : 0, 0);
            Due.due(method + " has seven parameters at most", method.getParameterCount() <= 7 ? 1 : 0, 1);
        }
    }
}
