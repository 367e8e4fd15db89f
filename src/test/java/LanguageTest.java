import java.io.IOException;
import java.lang.reflect.Field;
import java.lang.reflect.Method;
import java.lang.reflect.Modifier;
import java.nio.charset.StandardCharsets;
import java.nio.file.Files;
import java.nio.file.Path;
import java.util.Set;
import java.util.TreeSet;
import java.util.regex.Matcher;
import java.util.regex.Pattern;

/** The rules of LANGUAGE.md that can be read off the file or the class; .ci/run starts it in the project's root. */
public final class LanguageTest {
    private static final String[] FORBIDDEN = {
        "throw", "try", "catch", "finally", "synchronized", "assert", "package", "native", "volatile", "transient",
        "protected", "record", "var", "Object", "System\\.(?!arraycopy)\\w+", "\\w+Exact", "Random", "Thread", "hashCode", "toString"};

    public static void main(String[] args) throws IOException {
        String source = Files.readString(Path.of("src/main/java/RoomsOfHours.java"), StandardCharsets.US_ASCII);
        String code = source.replaceAll("(?s)/\\*.*?\\*/", "").replaceAll("//[^\n]*", "").replaceAll("\"[^\"\n]*\"", "\"\"");
        for (String word : FORBIDDEN) {
            Due.due("the word " + word, Pattern.compile("\\b" + word + "\\b").matcher(code).find() ? 1 : 0, 0);
        }
        Due.due("a lambda or a reference to a method", code.contains("->") || code.contains("::") ? 1 : 0, 0);
        Matcher imports = Pattern.compile("import ([\\w.]+);").matcher(code);
        while (imports.find()) {
            Due.due("import " + imports.group(1), imports.group(1).equals("java.util.Arrays") ? 1 : 0, 1);
        }
        Set<String> face = new TreeSet<>();
        for (Method method : RoomsOfHours.class.getDeclaredMethods()) {
            if (Modifier.isPublic(method.getModifiers())) {
                face.add(method.getName());
            }
        }
        Due.due("public methods", face.size(), 32);
        Due.due("public constructors", RoomsOfHours.class.getConstructors().length, 1);
        Due.due("constructors", RoomsOfHours.class.getDeclaredConstructors().length, 1);
        Due.due("is final", Modifier.isFinal(RoomsOfHours.class.getModifiers()) ? 1 : 0, 1);
        Due.due("some twelve classes at most", RoomsOfHours.class.getDeclaredClasses().length < 12 ? 1 : 0, 1);
        checkMethodLengths(source);
        checkClass(RoomsOfHours.class, face, true);
        for (Class<?> inner : RoomsOfHours.class.getDeclaredClasses()) {
            Due.due(inner + " is static", Modifier.isStatic(inner.getModifiers()) ? 1 : 0, 1);
            checkClass(inner, face, false);
        }
        Due.end();
    }

    private static void checkMethodLengths(String source) {
        String[] lines = source.split("\n");
        Pattern head = Pattern.compile("( +)[^/* ].*\\) \\{");
        for (int n = 0; n < lines.length; n++) {
            Matcher method = head.matcher(lines[n]);
            boolean is = method.matches() && !lines[n].matches(" +(if|for|while|switch|\\}).*");
            int end = n;
            while (is && end + 1 < lines.length && !lines[end].equals(method.group(1) + "}")) {
                end++;
            }
            Due.due("line " + (n + 1) + " begins a method of some sixty lines at most", end - n < 60 ? 1 : 0, 1);
        }
    }

    private static void checkClass(Class<?> type, Set<String> face, boolean outer) {
        int own = 0;
        for (Field field : type.getDeclaredFields()) {
            int is = field.getModifiers();
            own += Modifier.isStatic(is) ? 0 : 1;
            if (Modifier.isStatic(is)) {
                Due.due(field + " is final", Modifier.isFinal(is) ? 1 : 0, 1);
            }
            if (outer && !Modifier.isPrivate(is)) {
                Due.due(field + " is of the face", Set.of("BAD", "NO", "FULL", "NONE").contains(field.getName()) ? 1 : 0, 1);
            }
        }
        Due.due(type + " has some twenty fields at most", own <= 20 ? 1 : 0, 1);
        for (Method method : type.getDeclaredMethods()) {
            boolean open = Modifier.isPublic(method.getModifiers());
            if (outer && !open) {
                Due.due(method + " is private", Modifier.isPrivate(method.getModifiers()) ? 1 : 0, 1);
            }
            Due.due(method + " bears its own name", !open && face.contains(method.getName()) ? 1 : 0, 0);
            Due.due(method + " has seven parameters at most", method.getParameterCount() <= 7 ? 1 : 0, 1);
        }
    }
}
