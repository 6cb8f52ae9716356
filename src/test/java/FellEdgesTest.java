/** The edges that the document names of notes, bows, pigeons and coronations: promises 20 to 27. */
public final class FellEdgesTest {
    private static final Sentences S = new Sentences();
    private static final int LEAST = Sentences.LEAST, MOST = Sentences.MOST;
    private static final int BAD = Sentences.BAD, FULL = Sentences.FULL;
    private static final int PLAIN = 0, STIFF = 1, SHORT = 2, BOWED = 3, NODDER = 4, BRED = 5;
    private static final int[] NO_HEADS = {-1, 2, 5, LEAST, MOST};
    private static final int[] NO_STEPS = {-1, 6, 7, LEAST, MOST};
    private static final int[] NO_ROWS = {-1, 4, 10, 20, 101, 333333334, 1000000000, 1111111111, LEAST, MOST};

    private FellEdgesTest() {
    }

    public static void main(String[] args) {
        nothingIsChanged();
        notes();
        notesRefused();
        forgetting();
        is();
        isByCell();
        isFallenAtOnce();
        bowl();
        bowlOfThese();
        bowlNone();
        whoBowed();
        whoBowedNowhere();
        whoBowedRefused();
        pigeons();
        pigeonsFall();
        fractions();
        pigeonsRefused();
        coronations();
        seeds();
        coronationsRefused();
        S.end();
    }

    private static void nothingIsChanged() {
        S.says("(Nothing is changed by these.)");
        S.changesNothing(Sentences::busy, 63, "is", 0);
        S.changesNothing(Sentences::busy, 1 << SHORT | 1 << BRED, "is", 1);
        S.changesNothing(Sentences::busy, 1, "bowl", 1);
        S.changesNothing(Sentences::busy, 1 << 2 | 1 << 3 | 1 << 4 | 1 << 5, "bowed", 0, 0, 2111, 3, 5);
        S.changesNothing(Sentences::busy, 0, "crowned", 0, 7, 0);
        S.changesNothing(FellEdgesTest::smooth, 60, "crowned", 0, 7, 60);
        S.changesNothing(Sentences::bare, 0, "forget");
        S.says("PIGEONS is THE FRACTION (and nothing else)");
        SmallCrown x = Sentences.busy();
        x.pigeons(1, 3, 9);
        x.pigeons(0, 1, 3);
        S.due("digest()", x.digest(), Sentences.busy().digest());
    }

    private static void notes() {
        S.says("NOTES 0 .. 5, as they come: how many there are");
        SmallCrown x = Sentences.road(8, 5, PLAIN, 0);
        S.due(1, x, "note", 0, 0, 0, 0);
        S.due(2, x, "note", 0, 5, 333333333, 8);
        S.due(3, x, "note", 0, 0, 111111111, 8);
        S.due(4, x, "note", 0, 0, 0, 0);
        S.says("(or -1: it did not FALL)");
        S.due(5, x, "note", 0, 0, 1, -1);
        S.due(6, x, "note", 0, 0, 0, -1);
        S.says("note: FULL: 6.");
        S.due(-4, x, "note", 0, 0, 0, -1);
        S.due(6, x, "count", 3);
        S.refused(Sentences::full, FULL, -4, "note", 0, 0, 1, 1);
        S.refused(Sentences::full, FULL, -4, "note", 4, 5, 0, -1);
        S.says("Refused, the first of: BAD, FULL");
        S.refused(Sentences::full, BAD, -2, "note", 5, 0, 1, 1);
        S.refused(Sentences::full, BAD, -2, "note", 0, 6, 1, 1);
        S.refused(Sentences::full, BAD, -2, "note", 0, 0, 4, 1);
        S.refused(Sentences::full, BAD, -2, "note", 0, 0, 1, 9);
    }

    private static void notesRefused() {
        S.says("note: BAD");
        S.refused(Sentences::bare, BAD, -2, "note", 0, 0, 0, 0);
        for (int head : NO_HEADS) {
            S.refused(Sentences::busy, BAD, -2, "note", head, 0, 1, 1);
        }
        for (int t : NO_STEPS) {
            S.refused(Sentences::busy, BAD, -2, "note", 0, t, 1, 1);
        }
        for (int row : NO_ROWS) {
            S.refused(Sentences::busy, BAD, -2, "note", 0, 0, row, 1);
        }
        for (int cell : new int[] {-2, 9, 15, 16, LEAST, MOST}) {
            S.refused(Sentences::busy, BAD, -2, "note", 0, 0, 1, cell);
        }
        S.says("FELL in CELL c: CELLS 0 .. L");
        for (int length = 1; length <= 15; length++) {
            SmallCrown x = Sentences.road(length, 5, PLAIN, 0);
            S.due(1, x, "note", 0, 0, 0, length);
            S.due(-2, x, "note", 0, 0, 0, length + 1);
            S.due(0, x, "bowed", 0, 0, 0, 0, length);
            S.due(-2, x, "bowed", 0, 0, 0, 0, length + 1);
        }
    }

    private static void forgetting() {
        S.says("No NOTES: how many there were.");
        SmallCrown x = Sentences.full();
        S.due(6, x, "forget");
        S.due(0, x, "count", 3);
        S.due(0, x, "forget");
        S.due(63, x, "is", 0);
        S.due(63, x, "is", 1);
        S.due(1, x, "note", 0, 0, 1, -1);
        S.due(1, x, "forget");
    }

    private static void is() {
        S.says("IS: KINDS (bits) by which all NOTES of it are so: no NOTES, all KINDS");
        SmallCrown x = Sentences.road(6, 6, PLAIN, 3);
        x.head(PLAIN, 0);
        S.due(63, x, "is", 0);
        S.says("IS: were a HEAD of it, whatever it is");
        x.cobble(3, 3);
        x.note(0, 0, 3, 3);
        S.due(1 << SHORT | 1 << BRED, x, "is", 0);
        S.says("IS: all NOTES of it (of another HEAD, none)");
        S.due(63, x, "is", 1);
        x.note(1, 0, 3, -1);
        S.due(63, x, "is", 1);
        S.due(1 << SHORT | 1 << BRED, x, "is", 0);
        S.says("IS: all NOTES, so that none may fit");
        x.note(0, 0, 3, -1);
        S.due(0, x, "is", 0);
        S.says("IS: all NOTES, the 6th too");
        x.forget();
        for (int i = 1; i <= 5; i++) {
            S.due(i, x, "note", 0, 0, 0, -1);
        }
        S.due(63, x, "is", 0);
        S.due(6, x, "note", 0, 0, 3, 3);
        S.due(1 << SHORT | 1 << BRED, x, "is", 0);
        S.says("IS: NOTES from STEP t, by winds that come again");
        SmallCrown y = Sentences.road(8, 2, PLAIN, 1);
        y.wind(0, 2);
        y.note(0, 5, 11, 2);
        S.due(1 << PLAIN | 1 << SHORT | 1 << BOWED, y, "is", 0);
        y.note(0, 0, 1, 1);
        S.due(1 << PLAIN | 1 << SHORT | 1 << BOWED, y, "is", 0);
        y.note(0, 0, 11, 2);
        S.due(0, y, "is", 0);
    }

    /** Set 0, hold 2, cobble 3 in cell 2: at pace 2 only stiff necks hold, and no one at a later cell. */
    private static void isByCell() {
        S.says("IS: FELL in CELL c, in that one and no other");
        SmallCrown x = Sentences.road(3, 2, PLAIN, 0);
        x.cobble(2, 3);
        x.note(0, 0, 21, 2);
        S.due(1 << PLAIN | 1 << SHORT | 1 << BOWED | 1 << BRED, x, "is", 0);
        x.forget();
        x.note(0, 0, 21, 3);
        S.due(0, x, "is", 0);
        x.forget();
        x.note(0, 0, 21, -1);
        S.due(1 << STIFF | 1 << NODDER, x, "is", 0);
        x.forget();
        S.says("IS: FELL in THE FOUNTAIN");
        x.cobble(2, 0);
        x.cobble(3, -3);
        x.note(0, 0, 12, 3);
        S.due(1 << PLAIN | 1 << SHORT | 1 << BRED, x, "is", 0);
        x.forget();
        S.says("IS: a row that ends ahead of a FALL did not FALL");
        x.note(0, 0, 1, -1);
        S.due(63, x, "is", 0);
        x.note(0, 0, 0, -1);
        S.due(63, x, "is", 0);
        S.says("is: BAD.");
        S.refused(Sentences::bare, BAD, -2, "is", 0);
        for (int head : NO_HEADS) {
            S.refused(Sentences::busy, BAD, -2, "is", head);
        }
    }

    private static void isFallenAtOnce() {
        S.says("IS: FALLEN at once is a FALL in CELL 0");
        for (int set : new int[] {6, -6}) {
            SmallCrown x = Sentences.road(8, 5, PLAIN, set);
            x.note(0, 0, 123, 0);
            x.note(0, 0, 0, 0);
            S.due(63, x, "is", 0);
            x.note(0, 0, 0, -1);
            S.due(0, x, "is", 0);
        }
        SmallCrown x = Sentences.road(8, 5, PLAIN, 5);
        x.note(0, 0, 0, 0);
        S.due(0, x, "is", 0);
    }

    private static void bowl() {
        S.says("BOWL: of like ones the least");
        SmallCrown x = Sentences.road(15, 12, PLAIN, 0);
        S.due(1, x, "bowl", 0);
        S.due(1, Sentences.road(8, 5, PLAIN, 6), "bowl", 0);
        S.due(1, Sentences.road(1, 1, PLAIN, 0), "bowl", 0);
        S.says("BOWL: the most of these KINDS that end in the same CELL are fewest");
        SmallCrown y = Sentences.road(6, 6, PLAIN, 3);
        y.cobble(3, 2);
        S.due(3, y, "bowl", 0);
        S.says("BOWL: of these KINDS alone");
        y.note(0, 0, 3, 3);
        S.due(1 << SHORT | 1 << BRED, y, "is", 0);
        S.due(1, y, "bowl", 0);
        S.says("BOWL: again and again from STEP 0 till it is over, by winds that come again");
        SmallCrown z = Sentences.road(15, 5, PLAIN, 2);
        z.wind(0, 3);
        z.cobble(1, 4);
        S.due(2, z, "bowl", 0);
        z.wind(0, 0);
        S.due(1, z, "bowl", 0);
    }

    private static void bowlOfThese() {
        S.says("BOWL: the PACE p (1 .. 3)");
        SmallCrown x = Sentences.road(8, 5, PLAIN, 5);
        x.cobble(1, 4);
        x.cobble(2, 4);
        x.cobble(3, 4);
        x.cobble(4, 1);
        S.due(1, x, "bowl", 0);
        S.says("BOWL: of SHORT and BRED alone, whom the winds part at 2");
        SmallCrown y = Sentences.road(8, 6, PLAIN, 3);
        y.cobble(1, 4);
        y.cobble(3, 3);
        y.wind(1, 3);
        y.wind(2, 1);
        y.note(0, 0, 3, 3);
        S.due(1 << SHORT | 1 << BRED, y, "is", 0);
        S.due(2, y, "bowl", 0);
        S.says("BOWL: of PLAIN and SHORT alone, whom cobbles part at 3");
        SmallCrown z = Sentences.road(9, 6, PLAIN, -6);
        z.cobble(3, 4);
        z.cobble(6, 4);
        z.wind(5, -1);
        z.note(0, 5, 1, 1);
        S.due(1 << PLAIN | 1 << SHORT, z, "is", 0);
        S.due(3, z, "bowl", 0);
        S.says("BOWL: till it is over, though that takes as many STEPS as CELLS");
        SmallCrown v = Sentences.road(15, 5, PLAIN, 5);
        v.cobble(14, 1);
        S.due(1, v, "bowl", 0);
        S.says("BOWL: FALLEN at once, all end in CELL 0");
        SmallCrown w = Sentences.road(8, 5, PLAIN, 6);
        for (int i = 0; i < 3; i++) {
            S.due(1, w, "bowl", 0);
        }
    }

    private static void bowlNone() {
        S.says("bowl: NONE: no KIND.");
        SmallCrown x = Sentences.road(8, 5, PLAIN, 0);
        x.note(0, 0, 1, 1);
        S.due(0, x, "is", 0);
        S.due(-1, x, "bowl", 0);
        S.due(0, x, "status", 0);
        S.says("BOWL: one KIND is enough");
        SmallCrown y = Sentences.road(8, 5, PLAIN, 5);
        y.wind(0, 1);
        y.note(0, 0, 1, -1);
        y.note(0, 1, 111111, 6);
        S.due(0, y, "is", 0);
        y.forget();
        y.cobble(3, 1);
        y.note(0, 0, 1, -1);
        y.note(0, 1, 3, 3);
        S.due(1 << BRED, y, "is", 0);
        S.due(1, y, "bowl", 0);
        S.says("bowl: BAD.");
        S.refused(Sentences::bare, BAD, -2, "bowl", 0);
        for (int head : NO_HEADS) {
            S.refused(Sentences::busy, BAD, -2, "bowl", head);
        }
    }

    private static void whoBowed() {
        S.says("WHO BOWED: by b (-3 .. 3) in one CELL to which it came");
        SmallCrown x = Sentences.road(6, 2, PLAIN, 0);
        S.due(1 << 1, x, "bowed", 0, 0, 111111, 3, 1);
        S.due(1 << 1, x, "bowed", 0, 0, 111111, -3, 1);
        S.due(1 << 6, x, "bowed", 0, 0, 111111, 3, 6);
        S.due(1 << 6, x, "bowed", 0, 0, 333, -3, 6);
        S.due(0, x, "bowed", 0, 0, 333, 3, 1);
        S.due(0, x, "bowed", 0, 0, 111111, 2, 1);
        S.due(0, x, "bowed", 0, 0, 111111, -2, 1);
        S.says("FELL in CELL c: CELLS (bits) where that can have been");
        x.cobble(4, 2);
        S.due(1 << 1 | 1 << 2 | 1 << 3 | 1 << 4, x, "bowed", 0, 0, 111111, 1, 4);
        S.due(1 << 1 | 1 << 4, x, "bowed", 0, 0, 133, 1, 4);
        S.due(1 << 5, x, "bowed", 0, 0, 111111, 1, 5);
        S.due(1 << 6, x, "bowed", 0, 0, 111111, 1, 6);
        S.says("WHO BOWED: the LEAN behind that STEP is b more; that is what FALLS or not");
        x.cobble(4, 3);
        S.due(1 << 1 | 1 << 2 | 1 << 3 | 1 << 4, x, "bowed", 0, 0, 111111, 0, 4);
        S.due(0, x, "bowed", 0, 0, 111111, -1, 4);
        S.due(1 << 4, x, "bowed", 0, 0, 111111, 3, 4);
        SmallCrown y = Sentences.road(6, 2, NODDER, 2);
        S.due(0, y, "bowed", 0, 0, 2, 3, 2);
        S.due(1 << 2, y, "bowed", 0, 0, 2, -3, 2);
        S.says("WHO BOWED: a HEAD walking from STEP t, by winds that come again");
        SmallCrown z = Sentences.road(6, 2, PLAIN, 1);
        z.wind(0, 2);
        S.due(1 << 1 | 1 << 2, z, "bowed", 0, 5, 11, 0, 2);
        S.due(0, z, "bowed", 0, 1, 11, 0, 2);
    }

    private static void whoBowedNowhere() {
        S.says("WHO BOWED: in one CELL (in no two)");
        SmallCrown x = Sentences.road(6, 2, PLAIN, 0);
        for (int cell = 0; cell <= 6; cell++) {
            S.due(0, x, "bowed", 0, 0, 111111, 1, cell);
        }
        S.says("a row of PACES (0: none): it came to no CELL");
        for (int b = -3; b <= 3; b++) {
            S.due(0, x, "bowed", 0, 0, 0, b, 0);
        }
        S.says("WHO BOWED: FALLEN at once, it came to no CELL");
        x.head(PLAIN, 3);
        S.due(0, x, "bowed", 1, 0, 111, 0, 0);
        S.due(0, x, "bowed", 1, 0, 111, -3, 0);
        S.due(0, x, "bowed", 1, 0, 111, -3, 1);
        S.says("WHO BOWED: a CELL behind the row, or behind THE FOUNTAIN, it did not come to");
        S.due(0, x, "bowed", 0, 0, 12, 3, 4);
        S.due(1 << 6, x, "bowed", 0, 0, 333333333, 3, 6);
        S.due(1 << 3, x, "bowed", 0, 0, 333333333, 3, 3);
        S.says("WHO BOWED: FELL of itself ahead of the bow");
        x.cobble(2, 4);
        S.due(1 << 2, x, "bowed", 0, 0, 111, 3, 2);
        S.due(0, x, "bowed", 0, 0, 111, 3, 3);
        S.due(1 << 2, x, "bowed", 0, 5, 111, 3, 2);
        S.due(1 << 1 | 1 << 2, x, "bowed", 0, 5, 111111, -1, 2);
    }

    private static void whoBowedRefused() {
        S.says("bowed: BAD.");
        S.refused(Sentences::bare, BAD, -2, "bowed", 0, 0, 0, 0, 0);
        for (int head : NO_HEADS) {
            S.refused(Sentences::busy, BAD, -2, "bowed", head, 0, 1, 1, 1);
        }
        for (int t : NO_STEPS) {
            S.refused(Sentences::busy, BAD, -2, "bowed", 0, t, 1, 1, 1);
        }
        for (int row : NO_ROWS) {
            S.refused(Sentences::busy, BAD, -2, "bowed", 0, 0, row, 1, 1);
        }
        for (int b : new int[] {-4, 4, LEAST, MOST}) {
            S.refused(Sentences::busy, BAD, -2, "bowed", 0, 0, 1, b, 1);
        }
        for (int cell : new int[] {-2, -1, 9, 16, LEAST, MOST}) {
            S.refused(Sentences::busy, BAD, -2, "bowed", 0, 0, 1, 1, cell);
        }
    }

    private static SmallCrown smooth() {
        SmallCrown x = Sentences.road(8, 5, PLAIN, 0);
        x.walk(0);
        x.step(3);
        return x;
    }

    private static void fraction(long above, long below, SmallCrown x, int head, int pace, int c) {
        S.due(1, x, "pigeons", head, pace, c);
        S.due(above, x, "part", 0);
        S.due(below, x, "part", 1);
    }

    private static void pigeons() {
        S.says("PIGEONS: by c of 10 (0 .. 10) in each STEP, one sits on the crown");
        SmallCrown x = Sentences.road(1, 1, PLAIN, 1);
        long[][] lowest = {{1, 1}, {9, 10}, {4, 5}, {7, 10}, {3, 5}, {1, 2}, {2, 5}, {3, 10}, {1, 5}, {1, 10}, {0, 1}};
        for (int c = 0; c <= 10; c++) {
            fraction(lowest[c][0], lowest[c][1], x, 0, 1, c);
        }
        S.says("PIGEONS: apart");
        SmallCrown y = Sentences.road(3, 2, PLAIN, 0);
        fraction(124, 125, y, 0, 1, 2);
        fraction(7, 8, y, 0, 1, 5);
        fraction(1, 1, y, 0, 2, 5);
        y.head(PLAIN, 1);
        fraction(1, 2, y, 1, 1, 5);
        fraction(3, 4, y, 1, 2, 5);
        fraction(1, 1, y, 1, 3, 5);
    }

    private static void pigeonsFall() {
        S.says("PIGEONS: the LEAN behind it is 1 more (that is what FALLS or not)");
        SmallCrown x = Sentences.road(2, 2, PLAIN, -2);
        x.wind(0, -1);
        fraction(2, 5, x, 0, 3, 4);
        x.cobble(1, 4);
        fraction(21, 25, x, 0, 1, 4);
        S.says("PIGEONS: as a HEAD is");
        SmallCrown y = Sentences.road(2, 1, STIFF, 0);
        y.head(BOWED, 0);
        y.head(NODDER, 0);
        y.head(PLAIN, 0);
        fraction(1, 1, y, 0, 1, 9);
        fraction(1, 100, y, 1, 1, 9);
        fraction(1, 1, y, 2, 2, 9);
        fraction(19, 100, y, 3, 1, 9);
        S.says("PIGEONS: FALLEN on the way, it does not come to THE FOUNTAIN");
        SmallCrown z = Sentences.road(2, 2, PLAIN, 0);
        z.cobble(1, 3);
        z.cobble(2, -3);
        fraction(0, 1, z, 0, 1, 5);
        fraction(1, 2, z, 0, 2, 5);
        S.says("PIGEONS: FALLEN at once");
        z.head(PLAIN, 3);
        z.head(PLAIN, -3);
        fraction(0, 1, z, 1, 2, 0);
        fraction(0, 1, z, 2, 3, 10);
        S.says("PIGEONS: a LEAN of HOLD less than nothing does not FALL");
        SmallCrown v = Sentences.road(15, 12, PLAIN, -12);
        v.head(PLAIN, 12);
        v.head(PLAIN, 0);
        for (int i = 0; i < 2; i++) {
            fraction(1, 1, v, 0, 1, 0);
            fraction(1, 1, v, 1, 1, 0);
            fraction(1, 1, v, 2, 1, 0);
            fraction(1, 1, v, 0, 1, 10);
            fraction(1, 100000, v, 1, 3, 10 - 1);
        }
        S.says("PIGEONS from STEP 0, by winds that come again");
        SmallCrown w = Sentences.road(15, 12, PLAIN, 3);
        w.head(PLAIN, 4);
        w.wind(0, 3);
        fraction(1, 1, w, 0, 1, 0);
        fraction(0, 1, w, 1, 1, 0);
        fraction(1, 1, w, 1, 2, 0);
    }

    private static void fractions() {
        S.says("THE FRACTION: lowest terms, below above 0");
        SmallCrown x = Sentences.road(15, 12, PLAIN, 0);
        fraction(32647, 32768, x, 0, 1, 5);
        fraction(999999999991359L, 1000000000000000L, x, 0, 1, 1);
        fraction(1, 1, x, 0, 1, 0);
        fraction(0, 1, x, 0, 1, 10);
        S.says("THE FRACTION: above (0), below (1).");
        S.changesNothing(Sentences::bare, 0, "part", 0);
        S.changesNothing(Sentences::bare, 1, "part", 1);
        S.says("part: BAD.");
        for (int what : new int[] {-1, 2, LEAST, MOST}) {
            S.refused(Sentences::busy, BAD, -2, "part", what);
        }
    }

    private static void pigeonsRefused() {
        S.says("pigeons: BAD.");
        S.refused(Sentences::bare, BAD, -2, "pigeons", 0, 1, 0);
        for (int head : NO_HEADS) {
            S.refused(Sentences::busy, BAD, -2, "pigeons", head, 1, 5);
        }
        for (int pace : new int[] {-1, 0, 4, LEAST, MOST}) {
            S.refused(Sentences::busy, BAD, -2, "pigeons", 0, pace, 5);
        }
        for (int c : new int[] {-1, 11, LEAST, MOST}) {
            S.refused(Sentences::busy, BAD, -2, "pigeons", 0, 1, c);
        }
    }

    /** How many of n come through a road of 15 that only a step to cell 7 falls on. */
    private static int crowned(long seed, int n) {
        long x = seed;
        int through = 0;
        for (int i = 0; i < n; i++) {
            int cell = 0;
            while (cell < 15 && cell != 7) {
                x = (x * 1103515245L + 12345L) & 0x7fffffffL;
                cell += (int) ((x >> 16) % 3) + 1;
            }
            through += cell == 7 ? 0 : 1;
        }
        return through;
    }

    private static void coronations() {
        S.says("CORONATIONS by a SEED (0 .. 999999), n (0 .. 60): how many come through");
        SmallCrown x = Sentences.road(15, 3, PLAIN, 0);
        x.cobble(7, 4);
        for (int seed : new int[] {0, 1, 65536, 123456, 999999}) {
            for (int n : new int[] {0, 1, 2, 3, 30, 59, 60}) {
                S.due(crowned(seed, n), x, "crowned", 0, seed, n);
            }
        }
        S.says("CORONATIONS, n 0: none");
        S.changesNothing(FellEdgesTest::smooth, 0, "crowned", 0, 0, 0);
        S.says("CORONATIONS: FALLEN at once, none comes through");
        x.head(PLAIN, 4);
        x.head(BRED, -4);
        S.due(0, x, "crowned", 1, 999999, 60);
        S.due(0, x, "crowned", 2, 0, 60);
        S.says("CORONATIONS: as many STEPS as CELLS, by paces of 1 alone");
        SmallCrown ones = Sentences.road(15, 5, PLAIN, 0);
        S.due(1, ones, "crowned", 0, 430627, 1);
        S.due(2, ones, "crowned", 0, 430627, 2);
        S.says("CORONATIONS: FALLEN in THE FOUNTAIN, none comes through");
        SmallCrown y = Sentences.road(1, 3, PLAIN, 0);
        y.cobble(1, 4);
        S.due(0, y, "crowned", 0, 5, 60);
    }

    private static void seeds() {
        S.says("X is SEED at first; for each STEP X becomes X times 1103515245 and 12345, what is left over");
        SmallCrown x = Sentences.road(2, 3, PLAIN, 0);
        x.cobble(1, 4);
        // Seed 0 gives 12345, 1406932606, 654583775, 1449466924, 229283573, 1109335178, 1051550459, 1293799192:
        // paces of 1, 1, 2, 2, 1, 2, 2, 2; those of 1 fall in cell 1, the others come through at once.
        int[] through = {0, 0, 0, 1, 2, 2, 3, 4, 5};
        for (int n = 0; n < through.length; n++) {
            S.due(through[n], x, "crowned", 0, 0, n);
        }
        S.says("CORONATIONS from STEP 0, by winds that come again");
        SmallCrown y = Sentences.road(15, 12, PLAIN, 10);
        y.wind(0, 2);
        y.wind(5, -2);
        S.due(60, y, "crowned", 0, 3, 60);
        y.wind(5, 0);
        S.due(crownedOfFewSteps(3, 60), y, "crowned", 0, 3, 60);
    }

    /** How many of n need no seventh step to come to cell 15. */
    private static int crownedOfFewSteps(long seed, int n) {
        long x = seed;
        int through = 0;
        for (int i = 0; i < n; i++) {
            int cell = 0;
            int steps = 0;
            while (cell < 15 && steps < 7) {
                x = (x * 1103515245L + 12345L) & 0x7fffffffL;
                cell += (int) ((x >> 16) % 3) + 1;
                steps++;
            }
            through += steps < 7 ? 1 : 0;
        }
        return through;
    }

    private static void coronationsRefused() {
        S.says("crowned: BAD.");
        S.refused(Sentences::bare, BAD, -2, "crowned", 0, 0, 0);
        for (int head : NO_HEADS) {
            S.refused(Sentences::busy, BAD, -2, "crowned", head, 0, 1);
        }
        for (int seed : new int[] {-1, 1000000, LEAST, MOST}) {
            S.refused(Sentences::busy, BAD, -2, "crowned", 0, seed, 1);
        }
        for (int n : new int[] {-1, 61, LEAST, MOST}) {
            S.refused(Sentences::busy, BAD, -2, "crowned", 0, 0, n);
        }
    }
}
