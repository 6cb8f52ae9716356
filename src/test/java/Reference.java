import java.math.BigInteger;
import java.util.ArrayList;
import java.util.HashMap;
import java.util.List;
import java.util.Map;
import java.util.regex.Matcher;
import java.util.regex.Pattern;

/**
 * The document once more, by trying everything out: slow, and apart from the
 * class in every way of reckoning, so that a slip in one shows against the other.
 */
final class Reference {
    static final class World {
        int length = 8;
        int hold = 5;
        int[] cobbles = new int[16];
        int[] winds = new int[6];
        List<int[]> heads = new ArrayList<>();
        List<int[]> notes = new ArrayList<>();
        int[] walk = null;
        List<int[]> undos = new ArrayList<>();

        World copy() {
            World w = new World();
            w.length = length;
            w.hold = hold;
            w.cobbles = cobbles.clone();
            w.winds = winds.clone();
            w.heads = new ArrayList<>(heads);
            w.notes = new ArrayList<>(notes);
            w.walk = walk == null ? null : walk.clone();
            w.undos = new ArrayList<>(undos);
            return w;
        }
    }

    private World w = new World();
    private final World[] images = new World[2];
    private String text = "";
    private BigInteger above = BigInteger.ZERO;
    private BigInteger below = BigInteger.ONE;
    private final int[] status = new int[3];

    private int refuse(int why, int answer) {
        status[why]++;
        return answer;
    }

    private boolean noHead(int head) {
        return head < 0 || head >= w.heads.size();
    }

    private static boolean noStep(int t) {
        return t < 0 || t > 5;
    }

    private static boolean noRow(int row) {
        return !Integer.toString(row).matches("0|[123]{1,9}");
    }

    private static String rowOf(int row) {
        return row == 0 ? "" : Integer.toString(row);
    }

    private boolean falls(int lean) {
        return Math.abs(lean) > w.hold;
    }

    private static int nearer(int lean) {
        return lean == 0 ? 0 : lean < 0 ? lean + 1 : lean - 1;
    }

    private static int lean(int kind, int l, int k, int wind, int p) {
        int twice = p == 3 ? k + k : k;
        switch (kind) {
            case 0: return l + k + wind;
            case 1: return nearer(l + k + wind);
            case 2: return l + twice + wind;
            case 3: return nearer(l + k + wind) + 1;
            case 4: return p == 2 ? -nearer(l + k + wind) : nearer(l + k + wind);
            default: return l + twice;
        }
    }

    /** A walk is HEAD, CELL, STEP, LEAN. */
    private int[] stepped(int[] walk, int kind, int pace, int bow) {
        int to = walk[1] + pace > w.length ? w.length : walk[1] + pace;
        int then = lean(kind, walk[3], w.cobbles[to], w.winds[walk[2] % 6], pace) + bow;
        return new int[] {walk[0], to, walk[2] + 1, then};
    }

    private boolean over(int[] walk) {
        return falls(walk[3]) || walk[1] == w.length;
    }

    private boolean through(int[] walk) {
        return !falls(walk[3]) && walk[1] == w.length;
    }

    private int[] begun(int head, int t) {
        return new int[] {head, 0, t, w.heads.get(head)[1]};
    }

    /** All states from the first to the last one; the i-th step is bowed. */
    private List<int[]> along(int kind, int head, int t, String row, int bowAt, int bow) {
        List<int[]> way = new ArrayList<>();
        int[] walk = begun(head, t);
        way.add(walk);
        for (int i = 0; i < row.length() && !over(walk); i++) {
            walk = stepped(walk, kind, row.charAt(i) - '0', i == bowAt ? bow : 0);
            way.add(walk);
        }
        return way;
    }

    private static <T> T last(List<T> list) {
        return list.get(list.size() - 1);
    }

    int road(int length, int hold) {
        if (length < 1 || length > 15 || hold < 1 || hold > 12) {
            return refuse(0, -2);
        }
        int were = w.heads.size();
        w = new World();
        w.length = length;
        w.hold = hold;
        return were;
    }

    int cobble(int c, int n) {
        if (c < 0 || c > w.length || n < -4 || n > 4) {
            return refuse(0, -10);
        }
        int was = w.cobbles[c];
        w.cobbles[c] = n;
        return was;
    }

    int wind(int i, int n) {
        if (i < 0 || i > 5 || n < -3 || n > 3) {
            return refuse(0, -10);
        }
        int was = w.winds[i];
        w.winds[i] = n;
        return was;
    }

    int head(int kind, int set) {
        if (kind < 0 || kind > 5 || set < -12 || set > 12) {
            return refuse(0, -2);
        }
        if (w.heads.size() == 5) {
            return refuse(2, -4);
        }
        w.heads.add(new int[] {kind, set});
        return w.heads.size() - 1;
    }

    int type(int c) {
        if (c < 0 || c > 127) {
            return refuse(0, -2);
        }
        if (text.length() == 150) {
            return refuse(2, -4);
        }
        text = text + (char) c;
        return text.length();
    }

    int clear() {
        int had = text.length();
        text = "";
        return had;
    }

    private static final Pattern TOKEN = Pattern.compile("[a-z]+|[0-9]+|;|[^ ]", Pattern.DOTALL);

    int read() {
        List<String> tokens = new ArrayList<>();
        List<Integer> places = new ArrayList<>();
        Matcher m = TOKEN.matcher(text);
        while (m.find()) {
            tokens.add(m.group());
            places.add(m.start());
        }
        World read = new World();
        int[] item = new int[3];
        String word = "";
        for (int i = 0; i < tokens.size(); i++) {
            String token = tokens.get(i);
            boolean stands;
            if (i % 4 == 0) {
                word = token;
                stands = i == 0 ? token.equals("road")
                        : token.matches("cobble|hole|wind|lull")
                        || token.matches("head|bent") && read.heads.size() < 5;
            } else if (i % 4 == 3) {
                stands = token.equals(";");
                if (stands) {
                    put(read, word, item);
                }
            } else {
                stands = token.matches("[0-9]{1,2}") && fits(read, word, i % 4, token);
                item[i % 4] = stands ? Integer.parseInt(token) : 0;
            }
            if (!stands) {
                return -10 - places.get(i);
            }
        }
        if (tokens.isEmpty() || tokens.size() % 4 != 0) {
            return -10 - text.length();
        }
        w = read;
        return tokens.size() / 4;
    }

    private static boolean fits(World read, String word, int which, String token) {
        int n = Integer.parseInt(token);
        boolean first = which == 1;
        switch (word) {
            case "road": return n >= 1 && n <= (first ? 15 : 12);
            case "cobble":
            case "hole": return n <= (first ? read.length : 4);
            case "wind":
            case "lull": return n <= (first ? 5 : 3);
            default: return n <= (first ? 5 : 12);
        }
    }

    private static void put(World read, String word, int[] item) {
        switch (word) {
            case "road":
                read.length = item[1];
                read.hold = item[2];
                break;
            case "cobble": read.cobbles[item[1]] = item[2]; break;
            case "hole": read.cobbles[item[1]] = -item[2]; break;
            case "wind": read.winds[item[1]] = item[2]; break;
            case "lull": read.winds[item[1]] = -item[2]; break;
            case "head": read.heads.add(new int[] {item[1], item[2]}); break;
            default: read.heads.add(new int[] {item[1], -item[2]}); break;
        }
    }

    int walk(int head) {
        if (noHead(head)) {
            return refuse(0, -2);
        }
        w.walk = begun(head, 0);
        w.undos.clear();
        return falls(w.walk[3]) ? 1 : 0;
    }

    private void remember() {
        w.undos.add(w.walk);
        if (w.undos.size() > 8) {
            w.undos.remove(0);
        }
    }

    int step(int pace) {
        if (pace < 1 || pace > 3) {
            return refuse(0, -10);
        }
        if (w.walk == null || over(w.walk)) {
            return refuse(1, -3);
        }
        remember();
        w.walk = stepped(w.walk, w.heads.get(w.walk[0])[0], pace, 0);
        return w.walk[1];
    }

    int hand() {
        if (w.walk == null || through(w.walk)) {
            return refuse(1, -99);
        }
        remember();
        int had = w.walk[3];
        w.walk = new int[] {w.walk[0], w.walk[1], w.walk[2], 0};
        return had;
    }

    int undo() {
        if (w.undos.isEmpty()) {
            return refuse(1, -3);
        }
        w.walk = w.undos.remove(w.undos.size() - 1);
        return w.walk[1];
    }

    int of(int head, int what) {
        if (noHead(head) || what < 0 || what > 1) {
            return refuse(0, -100);
        }
        return w.heads.get(head)[what];
    }

    int now(int what) {
        if (what < 0 || what > 4) {
            return refuse(0, -100);
        }
        if (w.walk == null) {
            return what == 0 ? -1 : 0;
        }
        return what < 4 ? w.walk[what] : falls(w.walk[3]) ? 1 : 0;
    }

    int paces(int head, int t, int row, int what) {
        if (noHead(head) || noStep(t) || noRow(row) || what < 0 || what > 3) {
            return refuse(0, -100);
        }
        List<int[]> way = along(w.heads.get(head)[0], head, t, rowOf(row), -1, 0);
        int[] end = last(way);
        switch (what) {
            case 0: return end[1];
            case 1: return end[3];
            case 2: return way.size() - 1;
            default: return falls(end[3]) ? 1 : 0;
        }
    }

    /** The first row of just so many paces that comes through; null: none. */
    private String through(int[] walk, int kind, int steps) {
        if (over(walk) || steps == 0) {
            return steps == 0 && through(walk) ? "" : null;
        }
        for (int p = 1; p <= 3; p++) {
            String rest = through(stepped(walk, kind, p, 0), kind, steps - 1);
            if (rest != null) {
                return p + rest;
            }
        }
        return null;
    }

    private String soonestRow(int head, int t) {
        for (int steps = 1; steps <= w.length; steps++) {
            String row = through(begun(head, t), w.heads.get(head)[0], steps);
            if (row != null) {
                return row;
            }
        }
        return null;
    }

    int soonest(int head, int t, int i) {
        if (noHead(head) || noStep(t) || i < -1) {
            return refuse(0, -10);
        }
        String row = soonestRow(head, t);
        if (row == null) {
            return -1;
        }
        return i == -1 ? row.length() : i < row.length() ? row.charAt(i) - '0' : -5;
    }

    int hour(int head) {
        if (noHead(head)) {
            return refuse(0, -2);
        }
        int best = -1;
        String bestRow = null;
        for (int t = 0; t <= 5; t++) {
            String row = soonestRow(head, t);
            if (row != null && (bestRow == null || row.length() < bestRow.length())) {
                best = t;
                bestRow = row;
            }
        }
        return best;
    }

    /** null: he can be made to fall. */
    private Integer surely(int[] walk, int kind, int b, Map<String, Integer> known) {
        if (falls(walk[3])) {
            return null;
        }
        if (walk[1] == w.length) {
            return 0;
        }
        String key = walk[1] + " " + walk[2] + " " + walk[3];
        if (known.containsKey(key)) {
            return known.get(key);
        }
        Integer best = null;
        for (int p = 1; p <= 3; p++) {
            Integer worst = 0;
            for (int sign = -1; sign <= 1 && worst != null; sign++) {
                Integer then = surely(stepped(walk, kind, p, sign * b), kind, b, known);
                worst = then == null ? null : Integer.valueOf(Math.max(worst, then + 1));
            }
            if (worst != null && (best == null || worst < best)) {
                best = worst;
            }
        }
        known.put(key, best);
        return best;
    }

    int sure(int head, int t, int b) {
        if (noHead(head) || noStep(t) || b < 0 || b > 3) {
            return refuse(0, -2);
        }
        Integer steps = surely(begun(head, t), w.heads.get(head)[0], b, new HashMap<>());
        return steps == null ? -1 : steps;
    }

    int flat(int head, int t) {
        if (noHead(head) || noStep(t)) {
            return refuse(0, -2);
        }
        int[] laid = w.cobbles;
        int answer = -1;
        for (int many = 0; many <= 3 && answer == -1; many++) {
            for (int bits = 0; bits < 2 << w.length && answer == -1; bits += 2) {
                if (Integer.bitCount(bits) == many) {
                    w.cobbles = laid.clone();
                    for (int c = 1; c <= w.length; c++) {
                        w.cobbles[c] = (bits >> c & 1) == 1 ? 0 : laid[c];
                    }
                    if (surely(begun(head, t), w.heads.get(head)[0], 0, new HashMap<>()) != null) {
                        answer = bits;
                    }
                }
            }
        }
        w.cobbles = laid;
        return answer;
    }

    int note(int head, int t, int row, int cell) {
        if (noHead(head) || noStep(t) || noRow(row) || cell < -1 || cell > w.length) {
            return refuse(0, -2);
        }
        if (w.notes.size() == 6) {
            return refuse(2, -4);
        }
        w.notes.add(new int[] {head, t, row, cell});
        return w.notes.size();
    }

    int forget() {
        int were = w.notes.size();
        w.notes.clear();
        return were;
    }

    private int fellIn(int[] walk) {
        return falls(walk[3]) ? walk[1] : -1;
    }

    private List<Integer> fitting(int head) {
        List<Integer> kinds = new ArrayList<>();
        for (int kind = 0; kind < 6; kind++) {
            boolean fits = true;
            for (int[] note : w.notes) {
                fits &= note[0] != head
                        || fellIn(last(along(kind, head, note[1], rowOf(note[2]), -1, 0))) == note[3];
            }
            if (fits) {
                kinds.add(kind);
            }
        }
        return kinds;
    }

    int is(int head) {
        if (noHead(head)) {
            return refuse(0, -2);
        }
        int bits = 0;
        for (int kind : fitting(head)) {
            bits += 1 << kind;
        }
        return bits;
    }

    int bowl(int head) {
        if (noHead(head)) {
            return refuse(0, -2);
        }
        int best = -1;
        int fewest = 99;
        for (int p = 1; p <= 3; p++) {
            Map<Integer, Integer> ends = new HashMap<>();
            int most = 0;
            for (int kind : fitting(head)) {
                String row = Integer.toString(p).repeat(15);
                most = Math.max(most, ends.merge(last(along(kind, head, 0, row, -1, 0))[1], 1, Integer::sum));
            }
            if (most > 0 && most < fewest) {
                fewest = most;
                best = p;
            }
        }
        return best;
    }

    int bowed(int head, int t, int row, int b, int cell) {
        if (noHead(head) || noStep(t) || noRow(row) || b < -3 || b > 3 || cell < 0 || cell > w.length) {
            return refuse(0, -2);
        }
        int bits = 0;
        for (int i = 0; i < rowOf(row).length(); i++) {
            List<int[]> way = along(w.heads.get(head)[0], head, t, rowOf(row), i, b);
            if (way.size() > i + 1 && fellIn(last(way)) == cell) {
                bits |= 1 << way.get(i + 1)[1];
            }
        }
        return bits;
    }

    private long chance(int[] walk, int kind, int pace, int c) {
        if (falls(walk[3])) {
            return 0;
        }
        if (walk[1] == w.length) {
            return 1;
        }
        long without = c == 10 ? 0 : (10 - c) * chance(stepped(walk, kind, pace, 0), kind, pace, c);
        long with = c == 0 ? 0 : c * chance(stepped(walk, kind, pace, 1), kind, pace, c);
        return without + with;
    }

    int pigeons(int head, int pace, int c) {
        if (noHead(head) || pace < 1 || pace > 3 || c < 0 || c > 10) {
            return refuse(0, -2);
        }
        above = BigInteger.valueOf(chance(begun(head, 0), w.heads.get(head)[0], pace, c));
        below = BigInteger.TEN.pow((w.length + pace - 1) / pace);
        BigInteger common = above.gcd(below);
        above = above.divide(common);
        below = below.divide(common);
        return 1;
    }

    int crowned(int head, int seed, int n) {
        if (noHead(head) || seed < 0 || seed > 999999 || n < 0 || n > 60) {
            return refuse(0, -2);
        }
        BigInteger x = BigInteger.valueOf(seed);
        int crowned = 0;
        for (int i = 0; i < n; i++) {
            int[] walk = begun(head, 0);
            while (!over(walk)) {
                x = x.multiply(BigInteger.valueOf(1103515245)).add(BigInteger.valueOf(12345))
                        .mod(BigInteger.valueOf(2147483648L));
                int pace = x.divide(BigInteger.valueOf(65536)).mod(BigInteger.valueOf(3)).intValue() + 1;
                walk = stepped(walk, w.heads.get(head)[0], pace, 0);
            }
            crowned += through(walk) ? 1 : 0;
        }
        return crowned;
    }

    long part(int what) {
        if (what < 0 || what > 1) {
            return refuse(0, -2);
        }
        return (what == 0 ? above : below).longValueExact();
    }

    int image(int i) {
        if (i < 0 || i > 1) {
            return refuse(0, -2);
        }
        images[i] = w.copy();
        return 1;
    }

    int from(int i) {
        if (i < 0 || i > 1) {
            return refuse(0, -2);
        }
        if (images[i] == null) {
            return refuse(1, -3);
        }
        w = images[i].copy();
        return 1;
    }

    int status(int what) {
        return what < 0 || what > 2 ? refuse(0, -1) : status[what];
    }

    int count(int what) {
        int[] counts = {w.heads.size(), w.length, w.hold, w.notes.size(), w.undos.size(), text.length()};
        return what < 0 || what > 5 ? refuse(0, -2) : counts[what];
    }

    long digest() {
        List<Long> all = new ArrayList<>();
        for (int i = 0; i <= 5; i++) {
            all.add((long) count(i));
        }
        for (int c = 0; c <= w.length; c++) {
            all.add((long) w.cobbles[c]);
        }
        for (int wind : w.winds) {
            all.add((long) wind);
        }
        for (int[] head : w.heads) {
            all.add((long) head[0]);
            all.add((long) head[1]);
        }
        for (int i = 0; i <= 4; i++) {
            all.add((long) now(i));
        }
        for (int[] note : w.notes) {
            for (int v : note) {
                all.add((long) v);
            }
        }
        all.add(above.longValueExact());
        all.add(below.longValueExact());
        long h = 1087;
        for (long v : all) {
            h = 31 * h + v;
        }
        return h;
    }
}
