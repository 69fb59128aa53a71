import java.io.IOException;
import java.lang.reflect.Method;
import java.nio.file.Files;
import java.nio.file.Path;
import java.util.regex.Matcher;
import java.util.regex.Pattern;

/** README.md tells of each call as the document writes it, and the answers of its example are those that come. */
public final class Readme {
    private static final int CALLS = 36;

    private Readme() {
    }

    public static void main(String[] args) throws IOException, ReflectiveOperationException {
        String page = Files.readString(Path.of("README.md"));
        face(page, Files.readString(Path.of("../shared/DOC.md")));
        example(page);
        Checks.end();
    }

    private static void face(String page, String doc) {
        int calls = 0;
        for (Matcher m = Pattern.compile("public (?:int|long) (\\w+\\([^)]*\\));").matcher(doc); m.find(); calls++) {
            Checks.due("README.md tells of " + m.group(1), page.contains("| `" + m.group(1) + "` |") ? 1 : 0, 1);
        }
        Checks.due("calls of the face", calls, CALLS);
        for (String c : new String[] {"BAD", "NOT", "FULL", "STATE", "VOID"}) {
            Checks.due("README.md tells of " + c, page.contains("| `" + c + "` |") ? 1 : 0, 1);
        }
    }

    private static void example(String page) throws ReflectiveOperationException {
        BothBeside quay = new BothBeside();
        int lines = 0;
        for (Matcher m = Pattern.compile("(?m)^quay\\.(\\w+)\\((.*)\\);\\s*// (-?\\d+)$").matcher(page); m.find(); lines++) {
            long got = call(quay, m.group(1), m.group(2).isEmpty() ? new String[0] : m.group(2).split(", "));
            Checks.due("README.md, line " + (lines + 1) + " of the example, " + m.group(1), got, Long.parseLong(m.group(3)));
        }
        Checks.due("each line of the example has its answer", lines, page.split("\nquay\\.").length - 1);
    }

    private static long call(BothBeside quay, String name, String[] told) throws ReflectiveOperationException {
        Class<?>[] types = new Class<?>[told.length];
        Object[] values = new Object[told.length];
        for (int i = 0; i < told.length; i++) {
            types[i] = int.class;
            values[i] = told[i].startsWith("'") ? told[i].charAt(1) : Integer.parseInt(told[i]);
        }
        Method m = BothBeside.class.getMethod(name, types);
        return ((Number) m.invoke(quay, values)).longValue();
    }
}
