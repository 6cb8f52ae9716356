/** The edges that the document names of the road, its cobbles, winds and heads, and of typing: promises 1 to 7. */
public final class RoadEdgesTest {
    private static final Sentences S = new Sentences();
    private static final int LEAST = Sentences.LEAST, MOST = Sentences.MOST;
    private static final int BAD = Sentences.BAD, FULL = Sentences.FULL;

    private RoadEdgesTest() {
    }

    public static void main(String[] args) {
        aNewObject();
        lengths();
        holds();
        allElseAsAtFirst();
        cells();
        cobbles();
        winds();
        heads();
        kindsAndSets();
        bytes();
        clearing();
        theFirstRefusal();
        S.end();
    }

    private static void aNewObject() {
        SmallCrown x = new SmallCrown();
        S.says("L is THE FOUNTAIN, 1 .. 15; 8 at first");
        S.due(8, x, "count", 1);
        S.says("HOLD (1 .. 12; 5 at first)");
        S.due(5, x, "count", 2);
        S.says("each with a COBBLE (-4 .. 4; 0 at first)");
        for (int c = 0; c <= 8; c++) {
            S.due(0, x, "cobble", c, 1);
        }
        S.says("WINDS 0 .. 5 (-3 .. 3; 0 at first)");
        for (int i = 0; i <= 5; i++) {
            S.due(0, x, "wind", i, 1);
        }
        S.says("As told; no HEADS, no WALK.");
        S.due(0, x, "count", 0);
        S.due(-1, x, "now", 0);
        S.due(0, x, "count", 3);
        S.due(0, x, "count", 4);
        S.due(0, x, "count", 5);
        for (int i = 0; i <= 2; i++) {
            S.due(0, x, "status", i);
        }
        S.due(-3, x, "from", 0);
        S.due(-3, x, "from", 1);
        S.says("THE FRACTION is 0 by 1 at first");
        S.due(0, x, "part", 0);
        S.due(1, x, "part", 1);
    }

    private static void lengths() {
        SmallCrown x = new SmallCrown();
        S.says("L is THE FOUNTAIN, 1 .. 15");
        S.due(0, x, "road", 1, 5);
        S.due(1, x, "count", 1);
        S.due(0, x, "road", 15, 5);
        S.due(15, x, "count", 1);
        S.says("road: BAD, by L");
        for (int length : new int[] {0, 16, -1, -8, 100, LEAST, MOST}) {
            S.refused(Sentences::busy, BAD, -2, "road", length, 5);
            S.refused(Sentences::bare, BAD, -2, "road", length, 5);
        }
    }

    private static void holds() {
        SmallCrown x = new SmallCrown();
        S.says("HOLD (1 .. 12)");
        S.due(0, x, "road", 8, 1);
        S.due(1, x, "count", 2);
        S.due(0, x, "road", 8, 12);
        S.due(12, x, "count", 2);
        S.says("road: BAD, by HOLD");
        for (int hold : new int[] {0, 13, -1, -5, 100, LEAST, MOST}) {
            S.refused(Sentences::busy, BAD, -2, "road", 8, hold);
        }
        S.refused(Sentences::full, BAD, -2, "road", 16, 13);
    }

    private static void allElseAsAtFirst() {
        SmallCrown x = Sentences.full();
        long above = x.part(0);
        long below = x.part(1);
        int fulls = x.status(FULL);
        S.says("L, HOLD, all else as at first: how many HEADS there were.");
        S.due(5, x, "road", 15, 12);
        S.due(0, x, "count", 0);
        S.due(0, x, "count", 3);
        S.due(0, x, "count", 4);
        S.due(-3, x, "undo");
        S.due(-1, x, "now", 0);
        for (int what = 1; what <= 4; what++) {
            S.due(0, x, "now", what);
        }
        for (int c = 0; c <= 15; c++) {
            S.due(0, x, "cobble", c, 2);
        }
        for (int i = 0; i <= 5; i++) {
            S.due(0, x, "wind", i, 2);
        }
        S.due(0, x, "road", 8, 5);
        S.due(0, x, "road", 15, 5);
        for (int c = 0; c <= 15; c++) {
            S.due(0, x, "cobble", c, 0);
        }
        for (int i = 0; i <= 5; i++) {
            S.due(0, x, "wind", i, 0);
        }
        S.says("(but for IMAGES, THE TEXT, THE FRACTION, STATUS)");
        S.due(150, x, "count", 5);
        S.due(above, x, "part", 0);
        S.due(below, x, "part", 1);
        S.due(fulls, x, "status", FULL);
        S.due(1, x, "from", 0);
        S.due(2, x, "count", 0);
        S.due(1, x, "from", 1);
        S.due(5, x, "count", 0);
    }

    private static void cells() {
        S.says("THE ROAD has CELLS 0 .. L");
        for (int length = 1; length <= 15; length++) {
            SmallCrown x = Sentences.road(length, 5, 0, 0);
            S.due(0, x, "cobble", 0, 3);
            S.due(0, x, "cobble", length, -3);
            S.due(-10, x, "cobble", length + 1, 1);
            S.due(3, x, "cobble", 0, 0);
            S.due(-3, x, "cobble", length, 0);
        }
        S.says("cobble: BAD: -10, by the CELL");
        for (int c : new int[] {-1, 9, 15, 16, LEAST, MOST}) {
            S.refused(Sentences::busy, BAD, -10, "cobble", c, 0);
        }
    }

    private static void cobbles() {
        SmallCrown x = new SmallCrown();
        S.says("A COBBLE: what it was (it may be below 0).");
        S.due(0, x, "cobble", 8, -4);
        S.due(-4, x, "cobble", 8, -4);
        S.due(-4, x, "cobble", 8, 4);
        S.due(4, x, "cobble", 8, -1);
        S.due(-1, x, "cobble", 8, 0);
        S.due(0, x, "cobble", 7, 0);
        S.says("cobble: BAD: -10, by the number");
        for (int n : new int[] {-5, 5, -10, LEAST, MOST}) {
            S.refused(Sentences::busy, BAD, -10, "cobble", 3, n);
        }
        S.refused(Sentences::busy, BAD, -10, "cobble", -1, -5);
    }

    private static void winds() {
        SmallCrown x = new SmallCrown();
        S.says("A WIND: what it was (it may be below 0).");
        for (int i : new int[] {0, 5}) {
            S.due(0, x, "wind", i, -3);
            S.due(-3, x, "wind", i, 3);
            S.due(3, x, "wind", i, -2);
            S.due(-2, x, "wind", i, 0);
        }
        S.says("wind: BAD: -10");
        for (int i : new int[] {-1, 6, 7, 11, LEAST, MOST}) {
            S.refused(Sentences::busy, BAD, -10, "wind", i, 0);
        }
        for (int n : new int[] {-4, 4, -10, LEAST, MOST}) {
            S.refused(Sentences::busy, BAD, -10, "wind", 1, n);
        }
    }

    private static void heads() {
        SmallCrown x = new SmallCrown();
        S.says("HEADS 0 .. 4, as they come");
        for (int i = 0; i < 5; i++) {
            S.due(i, x, "head", i, i);
        }
        for (int i = 0; i < 5; i++) {
            S.due(i, x, "of", i, 0);
        }
        S.says("head: FULL: 5.");
        S.refused(Sentences::full, FULL, -4, "head", 0, 0);
        S.refused(Sentences::full, FULL, -4, "head", 5, -12);
        S.says("A HEAD: its number (again from 0 on a road anew)");
        x.road(8, 5);
        S.due(0, x, "head", 0, 0);
    }

    private static void kindsAndSets() {
        SmallCrown x = new SmallCrown();
        S.says("KINDS of heads 0 .. 5");
        S.due(0, x, "head", 0, 0);
        S.due(1, x, "head", 5, 0);
        S.says("SET (its LEAN at first, -12 .. 12)");
        S.due(2, x, "head", 0, -12);
        S.due(-12, x, "of", 2, 1);
        S.due(3, x, "head", 0, 12);
        S.due(12, x, "of", 3, 1);
        S.says("head: BAD");
        for (int kind : new int[] {-1, 6, LEAST, MOST}) {
            S.refused(Sentences::busy, BAD, -2, "head", kind, 0);
        }
        for (int set : new int[] {-13, 13, LEAST, MOST}) {
            S.refused(Sentences::busy, BAD, -2, "head", 0, set);
        }
    }

    private static void bytes() {
        SmallCrown x = new SmallCrown();
        S.says("A byte (0 .. 127) comes behind THE TEXT: how many it has.");
        S.due(1, x, "type", 0);
        S.due(2, x, "type", 127);
        S.says("type: BAD");
        for (int c : new int[] {-1, 128, 255, 256 + 'r', LEAST, MOST}) {
            S.refused(Sentences::busy, BAD, -2, "type", c);
        }
        S.says("a TEXT (150 bytes at most)");
        for (int i = 3; i <= 150; i++) {
            S.due(i, x, "type", 'a');
        }
        S.due(150, x, "count", 5);
        S.says("type: FULL");
        S.due(-4, x, "type", 'a');
        S.refused(Sentences::full, FULL, -4, "type", ';');
        S.refused(Sentences::full, FULL, -4, "type", 0);
    }

    private static void clearing() {
        SmallCrown x = Sentences.full();
        S.says("THE TEXT is empty: how many it had.");
        S.due(150, x, "clear");
        S.due(0, x, "count", 5);
        S.due(0, x, "clear");
        S.due(-10, x, "read");
        S.due(1, x, "type", ';');
        S.due(-10, x, "read");
        S.due(1, x, "clear");
        S.changesNothing(Sentences::bare, 0, "clear");
        S.says("clear: nothing but THE TEXT");
        SmallCrown y = Sentences.busy();
        y.clear();
        Sentences.type(y, "road 9 4;head 2 1;");
        S.due("digest()", y.digest(), Sentences.busy().digest());
    }

    private static void theFirstRefusal() {
        S.says("Refused, changing nothing but STATUS, the first of: BAD, NO, FULL");
        S.refused(Sentences::full, BAD, -2, "head", 6, 0);
        S.refused(Sentences::full, BAD, -2, "head", 0, 13);
        S.refused(Sentences::full, BAD, -2, "type", 128);
        S.refused(Sentences::full, BAD, -2, "type", -1);
    }
}
