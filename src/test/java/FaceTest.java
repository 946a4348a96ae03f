import java.io.IOException;
import java.lang.reflect.Constructor;
import java.lang.reflect.Field;
import java.lang.reflect.Method;
import java.lang.reflect.Modifier;
import java.nio.file.Files;
import java.nio.file.Path;
import java.util.List;
import java.util.Set;
import java.util.TreeSet;
import java.util.regex.Pattern;

/** The public face, and what of LANGUAGE.md can be seen by looking at the class and its source. */
public final class FaceTest {
    private static final String[] FACE = {
        "int feed(int,int,int,int,int)", "boolean end(int)", "int text()", "int fault()", "int now(int)",
        "int weight(int)", "int joined(int)", "int at(int,int)", "int put(int,int,int)", "int lay(int,int)",
        "int sum(int,boolean)", "int back(int,boolean)", "int times(int,int,int,int)", "int power(int,int,int)",
        "int inverse(int,int)", "int allWays(int,int)", "int roots(int,int)", "int covers(int,int)",
        "int partings(int,int)", "int cheapest(int)", "int part(int,int) throws NoSuchElementException",
        "int colours(int)", "int colour(int,int)", "long colourings(int,int)", "int hangs(int)",
        "int weigh(int,int)", "int join(int,int,boolean)", "int name(int,int)", "int drawn(int,int)", "int undo()",
        "boolean image(int)", "boolean restore(int)"};

    private static final String[] RULED_OUT = {
        "->", "::", "\\bfinally\\b", "\\bsynchronized\\b", "\\bassert\\b", "\\bcatch\\b", "\\btry\\b", "Exact\\b",
        "\\bSystem\\.(?!arraycopy)", "\\bRandom\\b", "\\bThread\\b", "\\bstatic\\s*\\{", "\\[\\]\\[\\]\\[\\]",
        "\\bprotected\\b", "\\bhashCode\\b", "\\btoString\\b", "^package\\b"};

    private FaceTest() {
    }

    public static void main(String[] args) throws IOException {
        face();
        inside();
        if (args.length > 0) {
            source(Files.readString(Path.of(args[0])));
        }
        Check.finish();
    }

    private static String told(Method m) {
        StringBuilder made = new StringBuilder(m.getReturnType().getSimpleName()).append(' ').append(m.getName());
        String gap = "(";
        for (Class<?> c : m.getParameterTypes()) {
            made.append(gap).append(c.getSimpleName());
            gap = ",";
        }
        made.append(gap.equals("(") ? "()" : ")");
        for (Class<?> c : m.getExceptionTypes()) {
            made.append(" throws ").append(c.getSimpleName());
        }
        return made.toString();
    }

    private static void face() {
        Class<PartSums> c = PartSums.class;
        Check.due("public and final", c.getModifiers(), Modifier.PUBLIC | Modifier.FINAL);
        Set<String> shown = new TreeSet<>();
        Set<String> names = new TreeSet<>();
        for (Method m : c.getDeclaredMethods()) {
            if (Modifier.isPublic(m.getModifiers())) {
                shown.add(told(m));
                names.add(m.getName());
            }
        }
        Check.due("the methods " + shown, shown.equals(new TreeSet<>(List.of(FACE))), true);
        for (Method m : c.getDeclaredMethods()) {
            boolean open = Modifier.isPublic(m.getModifiers());
            Check.due(m + " is private", open || Modifier.isPrivate(m.getModifiers()), true);
            Check.due(m + " has a name of its own", open || !names.contains(m.getName()), true);
        }
        for (Field f : c.getDeclaredFields()) {
            boolean open = f.getName().equals("NONE");
            Check.due(f + " is as told", open ? Modifier.isPublic(f.getModifiers())
                : Modifier.isPrivate(f.getModifiers()), true);
            Check.due(f + " is final if static", !Modifier.isStatic(f.getModifiers())
                || Modifier.isFinal(f.getModifiers()), true);
        }
        Constructor<?>[] made = c.getDeclaredConstructors();
        Check.due("constructors", made.length, 1);
        Check.due("a public one without parameters", Modifier.isPublic(made[0].getModifiers())
            && made[0].getParameterCount() == 0, true);
        Check.due("NONE", PartSums.NONE, -1);
    }

    private static void inside() {
        Set<String> names = new TreeSet<>();
        for (Method m : PartSums.class.getDeclaredMethods()) {
            if (Modifier.isPublic(m.getModifiers())) {
                names.add(m.getName());
            }
        }
        Check.due("few classes", PartSums.class.getDeclaredClasses().length <= 11, true);
        fewFields(PartSums.class);
        for (Class<?> c : PartSums.class.getDeclaredClasses()) {
            Check.due(c + " is static", Modifier.isStatic(c.getModifiers()), true);
            Check.due(c + " is hidden", Modifier.isPublic(c.getModifiers()) || Modifier.isProtected(c.getModifiers()),
                false);
            fewFields(c);
            for (Method m : c.getDeclaredMethods()) {
                Check.due(m + " has a name of its own", names.contains(m.getName()), false);
                Check.due(m + " has few parameters", m.getParameterCount() <= 7, true);
            }
        }
    }

    private static void fewFields(Class<?> c) {
        int fields = 0;
        for (Field f : c.getDeclaredFields()) {
            fields += Modifier.isStatic(f.getModifiers()) ? 0 : 1;
        }
        Check.due(c + " has few fields", fields <= 20, true);
    }

    private static void source(String text) {
        String code = text.replaceAll("(?s)/\\*.*?\\*/", "").replaceAll("//[^\n]*", "").replaceAll("\"[^\"]*\"", "\"\"");
        for (String out : RULED_OUT) {
            Check.due("there is " + out, Pattern.compile(out, Pattern.MULTILINE).matcher(code).find(), false);
        }
        Check.due("signs of the source", text.chars().allMatch(s -> s == '\n' || s >= 32 && s < 127), true);
    }
}
