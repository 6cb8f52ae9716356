import java.lang.reflect.Method;
import java.lang.reflect.Modifier;
import java.nio.file.Files;
import java.nio.file.Path;
import java.util.Set;
import java.util.TreeSet;
import java.util.regex.Matcher;
import java.util.regex.Pattern;

/** README.md tells every call once at least, and the answers that it tells are the ones given. */
public final class ReadmeTest {
    private static final Due DUE = new Due();
    private static final Pattern MADE = Pattern.compile("SmallCrown x = new SmallCrown\\(\\);.*");
    private static final Pattern CALL = Pattern.compile("x\\.(\\w+)\\(([^)]*)\\);\\s+// (-?\\d+)(:.*)?");
    private static final Pattern TYPED =
        Pattern.compile("for \\(char c : \"([^\"]*)\"\\.toCharArray\\(\\)\\) x\\.type\\(c\\);");

    private static SmallCrown x = null;
    private static final Set<String> called = new TreeSet<>();

    private ReadmeTest() {
    }

    public static void main(String[] args) throws Exception {
        String text = Files.readString(Path.of("README.md"));
        String[] blocks = text.split("```");
        DUE.is("blocks of code", blocks.length, 3);
        String[] lines = blocks.length < 2 ? new String[0] : blocks[1].split("\n");
        for (int i = 1; i < lines.length; i++) {
            line(lines[i]);
        }
        DUE.holds(called + " are all calls of the face: " + face(), called.equals(face()));
        DUE.end();
    }

    private static void line(String line) {
        Matcher call = CALL.matcher(line);
        Matcher typed = TYPED.matcher(line);
        if (MADE.matcher(line).matches()) {
            x = new SmallCrown();
        } else if (call.matches()) {
            called.add(call.group(1));
            long got = Sentences.call(x, call.group(1), numbers(call.group(2)));
            DUE.is(line, got, Long.parseLong(call.group(3)));
        } else if (typed.matches()) {
            Sentences.type(x, typed.group(1));
        } else {
            DUE.holds("a line that this test can read: " + line, line.isEmpty() || line.startsWith("// "));
        }
    }

    private static int[] numbers(String list) {
        if (list.isEmpty()) {
            return new int[0];
        }
        String[] parts = list.split(", ");
        int[] numbers = new int[parts.length];
        for (int i = 0; i < parts.length; i++) {
            boolean sign = parts[i].startsWith("'");
            numbers[i] = sign ? parts[i].charAt(1) : Integer.parseInt(parts[i]);
        }
        return numbers;
    }

    private static Set<String> face() {
        Set<String> face = new TreeSet<>();
        for (Method m : SmallCrown.class.getDeclaredMethods()) {
            if (Modifier.isPublic(m.getModifiers())) {
                face.add(m.getName());
            }
        }
        return face;
    }
}
