import java.io.IOException;
import java.lang.reflect.InvocationTargetException;
import java.lang.reflect.Method;
import java.lang.reflect.Modifier;
import java.nio.file.Files;
import java.nio.file.Path;
import java.util.Map;
import java.util.Set;
import java.util.TreeMap;
import java.util.TreeSet;
import java.util.regex.Matcher;
import java.util.regex.Pattern;

/** The run of calls in README.md answers what stands behind each call there; no call of the face is missing. */
public final class ReadmeTest {
    private static final Pattern CALL =
        Pattern.compile("^x\\.(\\w+)\\((.*?)\\); +// (true|false|-?\\d+|throws \\w+)", Pattern.MULTILINE);

    private ReadmeTest() {
    }

    public static void main(String[] args) throws IOException, IllegalAccessException {
        Path source = Path.of(args.length > 0 ? args[0] : "src/main/java/PartSums.java").toAbsolutePath();
        String readme = Files.readString(source.resolve("../../../../README.md").normalize());
        Map<String, Method> face = face();
        Set<String> shown = new TreeSet<>();
        PartSums x = new PartSums();
        int lines = 0;
        for (Matcher m = CALL.matcher(readme); m.find(); lines++) {
            Check.due(m.group(), answer(x, face.get(m.group(1)), m.group(2)), m.group(3));
            shown.add(m.group(1));
        }
        Check.due("each call with an answer", lines, readme.lines().filter(l -> l.startsWith("x.")).count());
        Check.due("the calls that are shown", shown.toString(), face.keySet().toString());
        Check.finish();
    }

    private static Map<String, Method> face() {
        Map<String, Method> face = new TreeMap<>();
        for (Method m : PartSums.class.getDeclaredMethods()) {
            if (Modifier.isPublic(m.getModifiers())) {
                face.put(m.getName(), m);
            }
        }
        return face;
    }

    private static String answer(PartSums x, Method call, String told) throws IllegalAccessException {
        if (call == null) {
            return "no such call";
        }
        String[] words = told.isEmpty() ? new String[0] : told.split(", ");
        Object[] values = new Object[words.length];
        for (int i = 0; i < words.length; i++) {
            values[i] = value(words[i]);
        }
        try {
            return String.valueOf(call.invoke(x, values));
        } catch (InvocationTargetException e) {
            return "throws " + e.getCause().getClass().getSimpleName();
        }
    }

    private static Object value(String word) {
        if (word.equals("true") || word.equals("false")) {
            return word.equals("true");
        }
        return word.startsWith("0x") ? Integer.parseUnsignedInt(word.substring(2), 16) : Integer.parseInt(word);
    }
}
