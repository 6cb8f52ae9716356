import java.lang.reflect.Constructor;
import java.lang.reflect.Field;
import java.lang.reflect.Method;
import java.lang.reflect.Modifier;
import java.nio.file.Files;
import java.nio.file.Path;
import java.util.ArrayList;
import java.util.HashSet;
import java.util.List;
import java.util.Set;
import java.util.TreeSet;

/** What of LANGUAGE.md and of the public face can be seen from the source and the class. */
public final class LanguageTest {
    private static final Due DUE = new Due();
    private static final String SOURCE = "src/main/java/SmallCrown.java";
    private static final String FACE = "int road(int,int);int cobble(int,int);int wind(int,int);int head(int,int);"
        + "int type(int);int clear();int read();int walk(int);int step(int);int hand();int undo();int of(int,int);"
        + "int now(int);int paces(int,int,int,int);int soonest(int,int,int);int hour(int);int sure(int,int,int);"
        + "int flat(int,int);int note(int,int,int,int);int forget();int is(int);int bowl(int);"
        + "int bowed(int,int,int,int,int);int pigeons(int,int,int);int crowned(int,int,int);long part(int);"
        + "int image(int);int from(int);int status(int);int count(int);long digest()";
    private static final String[] NEVER = {
        "\\bthrow\\b", "\\btry\\b", "\\bcatch\\b", "\\bsynchronized\\b", "\\bassert\\b", "\\bimport\\b",
        "\\bpackage\\b", "->", "::", "@", "\\w+Exact\\b", "\\bSystem\\.(?!arraycopy)", "\\bequals\\b",
        "\\bhashCode\\b", "\\btoString\\b", "\\bprotected\\b", "\\b(java|native|volatile|Object)\\b",
        "\\bMath\\.(?!(min|max|abs|floorMod|floorDiv)\\b)", "\\bwhile \\(true\\)", "\\bfor \\(;",
        "\\bpublic static (?!final)", "[^\\x00-\\x7f]"
    };

    private LanguageTest() {
    }

    public static void main(String[] args) throws Exception {
        face();
        names();
        classes();
        source();
        DUE.end();
    }

    private static String signature(Method m) {
        StringBuilder s = new StringBuilder(m.getReturnType().getSimpleName()).append(' ').append(m.getName());
        List<String> types = new ArrayList<>();
        for (Class<?> type : m.getParameterTypes()) {
            types.add(type.getSimpleName());
        }
        return s.append('(').append(String.join(",", types)).append(')').toString();
    }

    private static boolean isPrivate(int modifiers) {
        return Modifier.isPrivate(modifiers);
    }

    private static void face() {
        Set<String> want = new TreeSet<>(List.of(FACE.split(";")));
        Set<String> got = new TreeSet<>();
        for (Method m : SmallCrown.class.getDeclaredMethods()) {
            if (!isPrivate(m.getModifiers()) && !m.isSynthetic()) {
                DUE.holds(m + " is public", Modifier.isPublic(m.getModifiers()));
                got.add(signature(m));
            }
        }
        DUE.holds("the methods are " + want + ", not " + got, want.equals(got));
        Set<String> constants = new TreeSet<>();
        for (Field f : SmallCrown.class.getDeclaredFields()) {
            if (!isPrivate(f.getModifiers()) && !f.isSynthetic()) {
                constants.add(Modifier.toString(f.getModifiers()) + " " + f.getType() + " " + f.getName());
            }
        }
        String kind = "public static final int ";
        DUE.holds("the constants are not " + constants,
            constants.equals(Set.of(kind + "NONE", kind + "BAD", kind + "NO", kind + "FULL")));
        Constructor<?>[] made = SmallCrown.class.getDeclaredConstructors();
        DUE.holds("one public constructor of no arguments",
            made.length == 1 && Modifier.isPublic(made[0].getModifiers()) && made[0].getParameterCount() == 0);
        DUE.holds("the class is final", Modifier.isFinal(SmallCrown.class.getModifiers()));
    }

    private static List<Class<?>> all() {
        List<Class<?>> all = new ArrayList<>(List.of(SmallCrown.class.getDeclaredClasses()));
        all.add(SmallCrown.class);
        return all;
    }

    private static void names() {
        Set<String> face = new HashSet<>();
        for (String method : FACE.split(";")) {
            face.add(method.substring(method.indexOf(' ') + 1, method.indexOf('(')));
        }
        for (Class<?> c : all()) {
            for (Method m : c.getDeclaredMethods()) {
                boolean own = c != SmallCrown.class || isPrivate(m.getModifiers());
                DUE.holds(m + " bears no public name", !own || !face.contains(m.getName()));
                DUE.holds(m + " has at most seven parameters", m.getParameterCount() <= 7);
            }
        }
    }

    private static void classes() {
        DUE.holds("at most twelve classes", all().size() <= 12);
        for (Class<?> c : all()) {
            int fields = 0;
            for (Field f : c.getDeclaredFields()) {
                if (Modifier.isStatic(f.getModifiers())) {
                    DUE.holds(f + " is final", Modifier.isFinal(f.getModifiers()));
                } else {
                    fields++;
                }
            }
            DUE.holds(c + " has at most twenty fields", fields <= 20);
            DUE.holds(c + " is static or the class itself",
                c == SmallCrown.class || Modifier.isStatic(c.getModifiers()) && !Modifier.isPublic(c.getModifiers()));
        }
    }

    private static void source() throws Exception {
        String text = Files.readString(Path.of(SOURCE));
        String code = text.replaceAll("(?s)/\\*.*?\\*/", "").replaceAll("//[^\n]*", "")
            .replaceAll("\"[^\"\n]*\"", "\"\"");
        for (String never : NEVER) {
            DUE.holds("no " + never, !java.util.regex.Pattern.compile(never).matcher(code).find());
        }
        int start = 0;
        String[] lines = code.split("\n");
        for (int i = 0; i < lines.length; i++) {
            if (lines[i].matches("    (    )?(public|private|int|long).*\\) \\{")) {
                start = i;
            }
            if (lines[i].matches("    (    )?\\}")) {
                DUE.holds("a short method at line " + start, i - start <= 60 || start == 0);
            }
        }
    }
}
