import java.lang.reflect.InvocationTargetException;
import java.lang.reflect.Method;
import java.util.ArrayList;
import java.util.Arrays;
import java.util.List;
import java.util.function.Supplier;

/**
 * Tests by sentences of the document: each answer that is looked at stands
 * under the words that ask for it, and is told with them if it is wrong.
 */
final class Sentences {
    /** The places of STATUS. */
    static final int BAD = 0, NO = 1, FULL = 2;
    /** Numbers that are not as told anywhere, whatever the range. */
    static final int LEAST = Integer.MIN_VALUE, MOST = Integer.MAX_VALUE;

    private final Due due = new Due();
    private String words = "(no sentence)";
    private int answers = 1;

    /** The words of the document that the answers from here on belong to. */
    void says(String sentence) {
        due.holds("a test of \"" + words + "\"", answers > 0);
        words = sentence;
        answers = 0;
    }

    void due(String call, long got, long want) {
        answers++;
        due.is("\"" + words + "\": " + call, got, want);
    }

    /** One call by its name, with the answer that is due. */
    void due(long want, SmallCrown x, String name, int... args) {
        due(told(name, args), call(x, name, args), want);
    }

    /** The call is refused for that reason, and nothing but STATUS is another than without it. */
    void refused(Supplier<SmallCrown> state, int reason, long want, String name, int... args) {
        SmallCrown x = state.get();
        SmallCrown twin = state.get();
        due(told(name, args), call(x, name, args), want);
        for (int i = 0; i < 3; i++) {
            due(told(name, args) + ", then status(" + i + ")", x.status(i), twin.status(i) + (i == reason ? 1 : 0));
        }
        due(told(name, args) + " changes nothing", Arrays.equals(fate(x), fate(twin)) ? 1 : 0, 1);
    }

    /** The call is answered, and nothing is another than without it, STATUS too. */
    void changesNothing(Supplier<SmallCrown> state, long want, String name, int... args) {
        refused(state, -1, want, name, args);
    }

    void end() {
        says("");
        due.end();
    }

    private static String told(String name, int[] args) {
        String list = Arrays.toString(args);
        return name + "(" + list.substring(1, list.length() - 1) + ")";
    }

    static long call(SmallCrown x, String name, int... args) {
        Class<?>[] types = new Class<?>[args.length];
        Object[] values = new Object[args.length];
        for (int i = 0; i < args.length; i++) {
            types[i] = int.class;
            values[i] = args[i];
        }
        try {
            Method m = SmallCrown.class.getMethod(name, types);
            return ((Number) m.invoke(x, values)).longValue();
        } catch (NoSuchMethodException | IllegalAccessException | InvocationTargetException e) {
            throw new IllegalStateException(told(name, args), e);
        }
    }

    /** All that can be seen of an object: also what may be undone, the text, the images. */
    private static long[] fate(SmallCrown x) {
        List<Long> seen = new ArrayList<>();
        see(x, seen);
        seen.add((long) x.read());
        see(x, seen);
        for (int i = 0; i < 2; i++) {
            seen.add((long) x.from(i));
            see(x, seen);
        }
        long[] fate = new long[seen.size()];
        for (int i = 0; i < fate.length; i++) {
            fate[i] = seen.get(i);
        }
        return fate;
    }

    private static void see(SmallCrown x, List<Long> seen) {
        seen.add(x.digest());
        for (int i = 0; i < 9; i++) {
            seen.add((long) x.undo());
            seen.add(x.digest());
        }
    }

    static SmallCrown type(SmallCrown x, String text) {
        for (int i = 0; i < text.length(); i++) {
            x.type(text.charAt(i));
        }
        return x;
    }

    /** What a new object answers when it reads the text. */
    static int read(String text) {
        return type(new SmallCrown(), text).read();
    }

    /** A road with one head on it. */
    static SmallCrown road(int length, int hold, int kind, int set) {
        SmallCrown x = new SmallCrown();
        x.road(length, hold);
        x.head(kind, set);
        return x;
    }

    // ---- states from which a refused call could change something

    static SmallCrown bare() {
        return new SmallCrown();
    }

    /** A walk with three to undo, notes, a fraction, a text that can be read, an image. */
    static SmallCrown busy() {
        SmallCrown x = road(8, 5, 0, 1);
        x.head(4, -3);
        x.cobble(3, -2);
        x.cobble(5, 4);
        x.wind(1, 2);
        x.note(0, 1, 12, -1);
        x.note(1, 0, 3, 3);
        x.pigeons(0, 1, 3);
        x.walk(0);
        x.step(2);
        x.image(0);
        x.hand();
        x.step(1);
        return type(x, "road 9 4;head 2 1;");
    }

    /** As busy, but with no room left for heads, notes, bytes, undos or images. */
    static SmallCrown full() {
        SmallCrown x = busy();
        for (int i = 0; i < 6; i++) {
            x.head(i, 0);
            x.note(0, 0, 1, 1);
            x.hand();
        }
        for (int i = 0; i < 150; i++) {
            x.type(' ');
        }
        x.image(1);
        return x;
    }

    /** A walk that is over at the fountain. */
    static SmallCrown arrived() {
        SmallCrown x = busy();
        x.step(1);
        x.step(3);
        x.step(3);
        return x;
    }

    /** A walk that is over, as the crown fell in cell 1. */
    static SmallCrown fallen() {
        SmallCrown x = busy();
        x.cobble(1, 4);
        x.wind(0, 3);
        x.walk(0);
        x.step(1);
        return x;
    }
}
