/** The edges that the document names of images, status, counts and the digest: promises 28 to 32. */
public final class KeptEdgesTest {
    private static final Sentences S = new Sentences();
    private static final int LEAST = Sentences.LEAST, MOST = Sentences.MOST;
    private static final int BAD = Sentences.BAD, NO = Sentences.NO, FULL = Sentences.FULL;

    private KeptEdgesTest() {
    }

    public static void main(String[] args) {
        keeping();
        goingOn();
        apart();
        imagesRefused();
        statusCounts();
        statusOfAnother();
        notRefused();
        counts();
        digestAtFirst();
        digestOfAll();
        lastCalls();
        S.end();
    }

    private static void keeping() {
        S.says("An IMAGE is kept: 1.");
        S.due(1, Sentences.bare(), "image", 0);
        S.due(1, Sentences.full(), "image", 1);
        S.says("IMAGES 0, 1 keep all but them, THE TEXT, THE FRACTION and STATUS");
        SmallCrown x = Sentences.fallen();
        x.image(1);
        x.clear();
        x.pigeons(1, 3, 7);
        x.image(2);
        long above = x.part(0);
        long kept = x.digest();
        x.road(15, 12);
        S.due(1, x, "from", 1);
        S.due("digest()", x.digest(), kept);
        S.due(0, x, "count", 5);
        S.due(above, x, "part", 0);
        S.due(1, x, "status", BAD);
        S.says("IMAGES keep all but them: one does not take the other away");
        S.due(1, x, "from", 0);
        S.due(2, x, "now", 1);
        S.due(1, x, "from", 1);
        S.due("digest()", x.digest(), kept);
    }

    private static void goingOn() {
        S.says("what may be undone they keep");
        SmallCrown x = Sentences.road(15, 12, 0, 7);
        x.walk(0);
        for (int i = 0; i < 11; i++) {
            x.step(1);
        }
        x.image(0);
        for (int i = 0; i < 8; i++) {
            x.undo();
        }
        x.hand();
        S.due(1, x, "from", 0);
        S.due(8, x, "count", 4);
        for (int i = 10; i >= 3; i--) {
            S.due(i, x, "undo");
            S.due(7, x, "now", 3);
        }
        S.due(-3, x, "undo");
        S.says("what may be undone they keep, whatever another WALK did");
        x.cobble(1, 1);
        S.due(1, x, "from", 0);
        x.walk(0);
        for (int i = 0; i < 5; i++) {
            x.hand();
            x.step(2);
        }
        S.due(1, x, "from", 0);
        for (int i = 10; i >= 3; i--) {
            S.due(i, x, "undo");
            S.due(i, x, "now", 2);
            S.due(7, x, "now", 3);
        }
        S.says("it goes on from one");
        S.due(1, x, "from", 0);
        S.due(14, x, "step", 3);
        S.due(15, x, "step", 3);
        S.due(1, x, "from", 0);
        S.due(12, x, "step", 1);
        S.says("an IMAGE of an object with nothing takes all away again");
        SmallCrown y = new SmallCrown();
        y.image(0);
        long first = y.digest();
        y.road(3, 3);
        y.cobble(1, 1);
        y.wind(5, 1);
        y.head(1, 1);
        y.note(0, 0, 1, 1);
        y.walk(0);
        y.step(1);
        S.due(1, y, "from", 0);
        S.due("digest()", y.digest(), first);
        S.due(-3, y, "undo");
        S.due(-3, y, "step", 1);
    }

    private static void apart() {
        S.says("An IMAGE is kept (what comes behind it does not change it)");
        SmallCrown x = Sentences.busy();
        x.image(1);
        long kept = x.digest();
        x.from(1);
        x.cobble(0, 4);
        x.wind(5, 3);
        x.head(5, 5);
        x.forget();
        x.undo();
        x.undo();
        x.step(3);
        S.due(1, x, "from", 1);
        S.due("digest()", x.digest(), kept);
        S.due(2, x, "undo");
        S.due(0, x, "now", 3);
        S.due(2, x, "undo");
        S.due(1, x, "now", 3);
        S.says("An IMAGE keeps NOTES 0 .. 5, HEADS 0 .. 4 and the COBBLE of the 15th CELL");
        SmallCrown y = Sentences.road(15, 12, 0, 0);
        fill(y, 1);
        y.image(0);
        long full = y.digest();
        y.road(15, 12);
        y.head(5, 5);
        fill(y, 2);
        S.due("another digest()", y.digest() == full ? 1 : 0, 0);
        S.due(1, y, "from", 0);
        S.due("digest()", y.digest(), full);
        S.says("An IMAGE is kept, in the place of one that was");
        x.road(3, 3);
        S.due(1, x, "image", 1);
        x.road(4, 4);
        S.due(1, x, "from", 1);
        S.due(3, x, "count", 1);
        S.due(0, x, "count", 0);
    }

    private static void fill(SmallCrown x, int n) {
        for (int c = 0; c <= 15; c++) {
            x.cobble(c, n);
        }
        for (int i = 0; i <= 5; i++) {
            x.wind(i, n);
            x.head(n, n);
        }
        for (int i = 0; i <= 5; i++) {
            x.note(n, n, n, n);
        }
    }

    private static void imagesRefused() {
        S.says("image: BAD.");
        for (int i : new int[] {-1, 2, LEAST, MOST}) {
            S.refused(Sentences::full, BAD, -2, "image", i);
            S.refused(Sentences::bare, BAD, -2, "image", i);
        }
        S.says("from: BAD");
        for (int i : new int[] {-1, 2, LEAST, MOST}) {
            S.refused(Sentences::full, BAD, -2, "from", i);
            S.refused(Sentences::bare, BAD, -2, "from", i);
        }
        S.says("from: NO: none was kept.");
        S.refused(Sentences::bare, NO, -3, "from", 0);
        S.refused(Sentences::bare, NO, -3, "from", 1);
        S.refused(Sentences::busy, NO, -3, "from", 1);
        S.due(1, Sentences.busy(), "from", 0);
    }

    private static void statusCounts() {
        S.says("STATUS: how many calls were refused as BAD, NO, FULL");
        SmallCrown x = Sentences.full();
        int[] were = {x.status(0), x.status(1), x.status(2)};
        for (int i = 1; i <= 20; i++) {
            x.part(9);
            x.now(9);
            S.due(were[0] + 2 * i, x, "status", BAD);
        }
        x.road(1, 1);
        x.clear();
        for (int i = 1; i <= 20; i++) {
            x.undo();
            x.hand();
            x.step(1);
            S.due(were[1] + 3 * i, x, "status", NO);
        }
        x.from(1);
        for (int i = 1; i <= 20; i++) {
            x.head(0, 0);
            x.note(0, 0, 0, 0);
            S.due(were[2] + 2 * i, x, "status", FULL);
        }
        S.due(were[0] + 40, x, "status", BAD);
        S.due(were[1] + 60, x, "status", NO);
    }

    private static void statusOfAnother() {
        S.says("STATUS: BAD (0), NO (1), FULL (2).");
        for (int what = 0; what <= 2; what++) {
            S.changesNothing(Sentences::bare, 0, "status", what);
        }
        S.says("-1: another what (counts as BAD)");
        for (int what : new int[] {-1, 3, -2, LEAST, MOST}) {
            S.refused(Sentences::busy, BAD, -1, "status", what);
            S.refused(Sentences::bare, BAD, -1, "status", what);
        }
    }

    /** NONE, -5 and a FAULT are not told as BAD, NO or FULL. */
    private static void notRefused() {
        S.says("STATUS (each answer told so below is such a one)");
        SmallCrown x = Sentences.road(3, 3, 0, 0);
        x.soonest(0, 0, 9);
        x.cobble(3, 4);
        x.soonest(0, 0, -1);
        x.hour(0);
        x.sure(0, 0, 0);
        x.head(0, 4);
        x.flat(1, 0);
        x.note(0, 0, 0, 0);
        x.bowl(0);
        x.read();
        x.now(0);
        x.walk(1);
        x.cobble(1, -3);
        x.cobble(1, -2);
        x.cobble(1, 0);
        x.wind(1, -2);
        x.wind(1, -3);
        x.wind(1, 0);
        for (int what = 0; what <= 2; what++) {
            S.due(0, x, "status", what);
        }
        S.says("a LEAN, a SET that is as an answer of refusal is not refused");
        SmallCrown y = Sentences.road(3, 12, 0, -2);
        y.head(0, -10);
        y.walk(0);
        S.due(-2, y, "now", 3);
        S.due(-2, y, "of", 0, 1);
        S.due(-10, y, "of", 1, 1);
        S.due(-2, y, "paces", 0, 0, 1, 1);
        S.due(-2, y, "hand");
        S.due(0, y, "status", BAD);
        S.due(0, y, "status", NO);
    }

    private static void counts() {
        S.says("How many: 0 HEADS, 1 L, 2 HOLD, 3 NOTES, 4 that may be undone, 5 bytes of THE TEXT.");
        int[] busy = {2, 8, 5, 2, 3, 18};
        int[] full = {5, 8, 5, 6, 8, 150};
        int[] bare = {0, 8, 5, 0, 0, 0};
        for (int what = 0; what <= 5; what++) {
            S.changesNothing(Sentences::busy, busy[what], "count", what);
            S.changesNothing(Sentences::full, full[what], "count", what);
            S.changesNothing(Sentences::bare, bare[what], "count", what);
        }
        S.says("count: BAD.");
        for (int what : new int[] {-1, 6, LEAST, MOST}) {
            S.refused(Sentences::busy, BAD, -2, "count", what);
            S.refused(Sentences::bare, BAD, -2, "count", what);
        }
    }

    private static long mixed(long... values) {
        long h = 1087;
        for (long v : values) {
            h = 31 * h + v;
        }
        return h;
    }

    private static void digestAtFirst() {
        S.says("h = 1087; then h = 31 h + v for each v");
        S.due("digest() at first", new SmallCrown().digest(), mixed(0, 8, 5, 0, 0, 0,
            0, 0, 0, 0, 0, 0, 0, 0, 0, 0, 0, 0, 0, 0, 0, -1, 0, 0, 0, 0, 0, 1));
        S.says("COBBLES of CELLS 0 to L");
        SmallCrown x = new SmallCrown();
        x.road(1, 1);
        x.cobble(0, -4);
        x.cobble(1, 4);
        S.due("digest() of the shortest", x.digest(), mixed(0, 1, 1, 0, 0, 0,
            -4, 4, 0, 0, 0, 0, 0, 0, -1, 0, 0, 0, 0, 0, 1));
        x.road(15, 12);
        for (int c = 0; c <= 15; c++) {
            x.cobble(c, c % 9 - 4);
        }
        S.due("digest() of the longest", x.digest(), mixed(0, 15, 12, 0, 0, 0,
            -4, -3, -2, -1, 0, 1, 2, 3, 4, -4, -3, -2, -1, 0, 1, 2, 0, 0, 0, 0, 0, 0, -1, 0, 0, 0, 0, 0, 1));
        S.changesNothing(Sentences::bare, new SmallCrown().digest(), "digest");
        S.changesNothing(Sentences::full, Sentences.full().digest(), "digest");
    }

    private static void digestOfAll() {
        S.says("of HEADS KIND, SET; now(0) to now(4); of NOTES HEAD, t, the row, CELL; THE FRACTION");
        SmallCrown x = new SmallCrown();
        x.road(2, 2);
        for (int i = 0; i <= 5; i++) {
            x.wind(i, i / 2 - 3);
            x.head(i, 2 * i - 4);
            x.type(i);
        }
        x.wind(0, 0);
        x.pigeons(2, 1, 5);
        x.wind(0, -3);
        for (int i = 0; i <= 6; i++) {
            x.note(i % 5, i % 6, 111 * (i % 4), i % 4 - 1);
        }
        x.walk(4);
        x.step(2);
        S.due("digest() of a full one", x.digest(), mixed(5, 2, 2, 6, 0, 6,
            0, 0, 0, -3, -3, -2, -2, -1, -1, 0, -4, 1, -2, 2, 0, 3, 2, 4, 4,
            4, 0, 0, 4, 1,
            0, 0, 0, -1, 1, 1, 111, 0, 2, 2, 222, 1, 3, 3, 333, 2, 4, 4, 0, -1, 0, 5, 111, 0, 3, 4));
    }

    private static void lastCalls() {
        S.says("An object is used for at most 512 calls");
        SmallCrown x = Sentences.road(15, 12, 0, 0);
        for (int i = 0; i < 253; i++) {
            x.walk(0);
            x.step(3);
        }
        S.due(3, x, "now", 1);
        S.due(0, x, "hand");
        S.due(3, x, "undo");
        S.due(15, x, "paces", 0, 5, 333333333, 0);
    }
}
