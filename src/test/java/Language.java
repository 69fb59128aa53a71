import java.io.IOException;
import java.lang.reflect.Method;
import java.lang.reflect.Modifier;
import java.nio.file.Files;
import java.nio.file.Path;
import java.util.ArrayList;
import java.util.List;
import java.util.Map;
import java.util.TreeMap;
import java.util.regex.Matcher;
import java.util.regex.Pattern;

/** What of ../shared/LANGUAGE.md and of the face can be seen from the source and the compiled class. */
public final class Language {
    private static final String[] FORBIDDEN = {"throw", "try", "catch", "synchronized", "assert", "import", "package",
        "float", "double", "Object", "Exception", "HashMap", "lambda", "static \\{", "->", "::", "@Override",
        "Math\\.\\w*Exact", "protected", "volatile", "System\\.(?!arraycopy)", "Thread", "Random", "abstract",
        "while \\(true\\)", "for \\(;;\\)", "toString", "hashCode", "getClass", "new int\\[[a-z]"};

    private Language() {
    }

    public static void main(String[] args) throws IOException {
        String source = Files.readString(Path.of("src/main/java/BothBeside.java"));
        String code = source.replaceAll("(?s)/\\*.*?\\*/", "").replaceAll("//[^\n]*", "");
        for (String f : FORBIDDEN) Checks.due("source holds " + f, count(code, "(?<!\\w)" + f + "(?!\\w)"), 0);
        Checks.due("signs above 127", source.chars().filter(c -> c > 126).count(), 0);
        Checks.due("classes above twelve", BothBeside.class.getDeclaredClasses().length + 1 <= 12 ? 0 : 1, 0);
        objects(code);
        lengths(code);
        face();
        Checks.end();
    }

    private static long count(String text, String pattern) {
        long n = 0;
        for (Matcher m = Pattern.compile(pattern).matcher(text); m.find();) n++;
        return n;
    }

    /** Objects are made only where fields are: two levels of braces deep at most, behind the word final. */
    private static void objects(String code) {
        for (String line : code.split("\n")) {
            if (!line.contains("new ")) continue;
            Checks.due("not a field: " + line, line.matches(" {4,8}private final .* = new .*;") ? 0 : 1, 0);
        }
    }

    private static void lengths(String code) {
        int lines = 0;
        for (String line : code.split("\n")) {
            lines = line.matches(" {4}(?: {4})?}") || line.isEmpty() ? 0 : lines + 1;
            Checks.due("a method above sixty lines at " + line, lines > 60 ? 1 : 0, 0);
        }
    }

    private static void face() throws IOException {
        Map<String, Boolean> told = new TreeMap<>();
        String doc = Files.readString(Path.of("../shared/DOC.md"));
        String block = doc.substring(doc.indexOf("public final class"), doc.indexOf("## Terms"));
        for (Matcher m = Pattern.compile("public (int|long) (\\w+)\\(([^)]*)\\)").matcher(block); m.find();) {
            told.put(m.group(1) + " " + m.group(2) + "(" + m.group(3).replaceAll("(int|long) \\w+", "$1") + ")", true);
        }
        Checks.due("methods told", told.size(), 36);
        List<String> publicNames = new ArrayList<>();
        List<Class<?>> classes = new ArrayList<>(List.of(BothBeside.class.getDeclaredClasses()));
        for (Method m : BothBeside.class.getDeclaredMethods()) {
            if (m.isSynthetic()) continue;
            StringBuilder types = new StringBuilder();
            for (Class<?> t : m.getParameterTypes()) types.append(types.length() == 0 ? "" : ", ").append(t.getName());
            String name = m.getReturnType().getName() + " " + m.getName() + "(" + types + ")";
            if (Modifier.isPublic(m.getModifiers())) {
                publicNames.add(m.getName());
                Checks.due("public beside the face: " + name, told.remove(name) == null ? 1 : 0, 0);
            } else {
                Checks.due("not private: " + name, Modifier.isPrivate(m.getModifiers()) ? 0 : 1, 0);
            }
        }
        Checks.due("lacks " + told.keySet(), told.size(), 0);
        for (Method m : BothBeside.class.getDeclaredMethods()) {
            if (Modifier.isPrivate(m.getModifiers())) {
                Checks.due("private, named as in the face: " + m, publicNames.contains(m.getName()) ? 1 : 0, 0);
            }
        }
        for (Class<?> c : classes) {
            Checks.due("not static: " + c, Modifier.isStatic(c.getModifiers()) ? 0 : 1, 0);
            int fields = 0;
            for (java.lang.reflect.Field f : c.getDeclaredFields()) if (!Modifier.isStatic(f.getModifiers())) fields++;
            Checks.due("fields above twenty: " + c, fields <= 20 ? 0 : 1, 0);
            for (Method m : c.getDeclaredMethods()) {
                Checks.due("named as in the face: " + m, publicNames.contains(m.getName()) ? 1 : 0, 0);
                Checks.due("above seven parameters: " + m, m.getParameterCount() <= 7 ? 0 : 1, 0);
            }
        }
    }
}
