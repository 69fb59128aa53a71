import java.io.IOException;
import java.lang.reflect.Field;
import java.lang.reflect.Method;
import java.lang.reflect.Modifier;
import java.nio.file.Files;
import java.nio.file.Path;
import java.util.ArrayList;
import java.util.List;
import java.util.Map;
import java.util.TreeMap;
import java.util.regex.Matcher;
import java.util.regex.Pattern;

/** What of ../shared/LANGUAGE.md and of the document's face can be seen from the source and the compiled class. */
public final class Language {
    /** By rules: what the code must not hold. */
    private static final String[][] FORBIDDEN = {
        {"rule 3", "Object", "HashMap", "Map", "Set", "Stack", "Deque", "ArrayDeque", "LinkedList", "Optional", "Character"},
        {"rule 4", "Math\\.\\w*Exact", "System\\.(?!arraycopy)", "String\\.(valueOf|format|join)", "stream"},
        {"rule 5", "static \\{", "volatile"},
        {"rule 6", "throw", "throws", "try", "catch", "synchronized", "assert", "hashCode", "getClass", "\\w*Exception"},
        {"rule 9", "while \\(true\\)", "for \\(;;\\)"},
        {"rule 13", "Thread", "Random", "nanoTime", "currentTimeMillis", "File", "Files", "Path"}};
    /** The names that a library class may be brought in by. */
    private static final String BROUGHT_IN = "import java\\.util\\.(ArrayList|List|Arrays|Iterator);";
    // "some sixty", "some twelve", "some twenty" in the rules: what is far above them is no longer some
    private static final int LONGEST_METHOD = 70, MOST_CLASSES = 15, MOST_FIELDS = 25, MOST_PARAMETERS = 7;

    private Language() {
    }

    public static void main(String[] args) throws IOException {
        String code = bare(Files.readString(Path.of("src/main/java/BothBeside.java")));
        for (String[] rule : FORBIDDEN) {
            for (int i = 1; i < rule.length; i++) {
                Checks.due(rule[0] + ", the source holds " + rule[i], count(code, "(?<!\\w)" + rule[i] + "(?!\\w)"), 0);
            }
        }
        Checks.due("a package line", count(code, "(?m)^package\\b"), 0);
        Checks.due("rule 4, imports", count(code, "(?m)^import\\b"), count(code, "(?m)^" + BROUGHT_IN));
        Checks.due("rule 2, a lambda", count(code, "->") - count(code, "(?m)^\\s*(case\\b[^>]*|default\\s*)->"), 0);
        Checks.due("rule 2, a method reference", count(code, "::"), 0);
        Checks.due("rule 4, signs above 127", code.chars().filter(c -> c > 127).count(), 0);
        lengths(code);
        face();
        Checks.end();
    }

    /** The source without its comments and without what its texts and signs hold. */
    private static String bare(String source) {
        String signs = "'(\\\\.|[^'\\\\])+'";
        String texts = "\"(\\\\.|[^\"\\\\])*\"";
        Matcher m = Pattern.compile("(?s)/\\*.*?\\*/|//[^\n]*|" + signs + "|" + texts).matcher(source);
        return m.replaceAll(r -> {
            String lines = r.group().replaceAll("[^\n]", "");
            return r.group().startsWith("/") ? lines : "\"\"";
        });
    }

    private static long count(String text, String pattern) {
        long n = 0;
        for (Matcher m = Pattern.compile(pattern).matcher(text); m.find();) n++;
        return n;
    }

    /** Each body of a method, from its brace to the one that closes it. */
    private static void lengths(String code) {
        Matcher m = Pattern.compile("(\\w+)\\s*\\([^()]*\\)\\s*\\{").matcher(code);
        while (m.find()) {
            if (m.group(1).matches("if|for|while|switch|catch")) continue;
            int depth = 0;
            int lines = 1;
            for (int i = m.end() - 1; i < code.length(); i++) {
                char c = code.charAt(i);
                if (c == '{') depth++;
                if (c == '}') depth--;
                if (c == '\n') lines++;
                if (depth == 0) break;
            }
            Checks.due("rule 11, lines of " + m.group(1) + ": " + lines, lines <= LONGEST_METHOD ? 0 : 1, 0);
        }
    }

    private static Map<String, Boolean> told() throws IOException {
        Map<String, Boolean> told = new TreeMap<>();
        String doc = Files.readString(Path.of("../shared/DOC.md"));
        String block = doc.substring(doc.indexOf("public final class"), doc.indexOf("## Terms"));
        for (Matcher m = Pattern.compile("public (int|long) (\\w+)\\(([^)]*)\\)").matcher(block); m.find();) {
            told.put(m.group(1) + " " + m.group(2) + "(" + m.group(3).replaceAll("(int|long) \\w+", "$1") + ")", true);
        }
        return told;
    }

    private static void face() throws IOException {
        Map<String, Boolean> told = told();
        Checks.due("methods told", told.size(), 36);
        Checks.due("rule 1, public and final", BothBeside.class.getModifiers(), Modifier.PUBLIC | Modifier.FINAL);
        Checks.due("rule 1, constructors", BothBeside.class.getDeclaredConstructors().length, 1);
        List<String> publicNames = new ArrayList<>();
        for (Method m : BothBeside.class.getDeclaredMethods()) {
            if (m.isSynthetic()) continue;
            StringBuilder types = new StringBuilder();
            for (Class<?> t : m.getParameterTypes()) types.append(types.length() == 0 ? "" : ", ").append(t.getName());
            String name = m.getReturnType().getName() + " " + m.getName() + "(" + types + ")";
            if (Modifier.isPublic(m.getModifiers())) {
                publicNames.add(m.getName());
                Checks.due("rule 1, public beside the face: " + name, told.remove(name) == null ? 1 : 0, 0);
            } else {
                Checks.due("rule 1, not private: " + name, Modifier.isPrivate(m.getModifiers()) ? 0 : 1, 0);
            }
        }
        Checks.due("rule 1, lacks " + told.keySet(), told.size(), 0);
        for (Field f : BothBeside.class.getDeclaredFields()) {
            boolean constant = List.of("BAD", "NOT", "FULL", "STATE", "VOID").contains(f.getName());
            int want = constant ? Modifier.PUBLIC : Modifier.PRIVATE;
            if (!f.isSynthetic()) Checks.due("rule 1, field " + f.getName(), f.getModifiers() & want, want);
        }
        members(BothBeside.class, publicNames);
        for (Class<?> c : BothBeside.class.getDeclaredClasses()) {
            Checks.due("rule 1, public or protected: " + c, c.getModifiers() & (Modifier.PUBLIC | Modifier.PROTECTED), 0);
            Checks.due("rule 2, not static: " + c, Modifier.isStatic(c.getModifiers()) ? 0 : 1, 0);
            members(c, publicNames);
        }
        int classes = BothBeside.class.getDeclaredClasses().length + 1;
        Checks.due("rule 11, classes: " + classes, classes <= MOST_CLASSES ? 0 : 1, 0);
    }

    private static void members(Class<?> c, List<String> publicNames) {
        int fields = 0;
        for (Field f : c.getDeclaredFields()) {
            if (!Modifier.isStatic(f.getModifiers())) fields++;
            else Checks.due("rule 5, static and not final: " + f, Modifier.isFinal(f.getModifiers()) ? 0 : 1, 0);
        }
        Checks.due("rule 11, fields of " + c + ": " + fields, fields <= MOST_FIELDS ? 0 : 1, 0);
        for (Method m : c.getDeclaredMethods()) {
            boolean hidden = Modifier.isPrivate(m.getModifiers()) && !m.isSynthetic();
            Checks.due("rule 1, private, named as in the face: " + m, hidden && publicNames.contains(m.getName()) ? 1 : 0, 0);
            Checks.due("rule 11, parameters of " + m, m.getParameterCount() <= MOST_PARAMETERS ? 0 : 1, 0);
        }
    }
}
