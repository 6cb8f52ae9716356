/** The edges that the document names of rows of paces, and of coming through: promises 15 to 19. */
public final class PacesEdgesTest {
    private static final Sentences S = new Sentences();
    private static final int LEAST = Sentences.LEAST, MOST = Sentences.MOST;
    private static final int BAD = Sentences.BAD;
    private static final int PLAIN = 0, STIFF = 1, SHORT = 2, BOWED = 3, NODDER = 4, BRED = 5;
    private static final int[] NO_HEADS = {-1, 2, 5, LEAST, MOST};
    private static final int[] NO_STEPS = {-1, 6, 7, LEAST, MOST};

    private PacesEdgesTest() {
    }

    public static void main(String[] args) {
        nothingIsChanged();
        rows();
        tillItIsOver();
        stepsOfTheRow();
        pacesRefused();
        soonestSteps();
        soonestRow();
        soonestOfMostSteps();
        soonestAtTheHold();
        soonestNone();
        soonestRefused();
        hour();
        sure();
        sureNone();
        sureRefused();
        flat();
        flatOfLikeOnes();
        flatThreeAtMost();
        flatRefused();
        S.end();
    }

    private static void nothingIsChanged() {
        S.says("(Nothing is changed by these.)");
        S.changesNothing(Sentences::busy, 8, "paces", 0, 0, 333, 0);
        S.changesNothing(Sentences::busy, 3, "soonest", 0, 0, -1);
        S.changesNothing(Sentences::busy, -5, "soonest", 0, 0, 3);
        S.changesNothing(Sentences::busy, 0, "hour", 0);
        S.changesNothing(Sentences::busy, -1, "sure", 0, 0, 3);
        S.changesNothing(Sentences::busy, 0, "flat", 0, 0);
        S.changesNothing(Sentences::fallen, 0, "flat", 1, 0);
    }

    private static void paces(SmallCrown x, int t, int row, int cell, int lean, int steps, int fallen) {
        S.due(cell, x, "paces", 0, t, row, 0);
        S.due(lean, x, "paces", 0, t, row, 1);
        S.due(steps, x, "paces", 0, t, row, 2);
        S.due(fallen, x, "paces", 0, t, row, 3);
    }

    private static SmallCrown rising() {
        SmallCrown x = Sentences.road(15, 12, PLAIN, -3);
        for (int c = 0; c <= 15; c++) {
            x.cobble(c, 1);
        }
        return x;
    }

    private static void rows() {
        SmallCrown x = rising();
        S.says("a row of PACES (0: none)");
        paces(x, 0, 0, 0, -3, 0, 0);
        S.says("a number of figures 1 to 3");
        paces(x, 0, 1, 1, -2, 1, 0);
        paces(x, 0, 2, 2, -2, 1, 0);
        paces(x, 0, 3, 3, -2, 1, 0);
        S.says("the first one first");
        x.cobble(1, 4);
        x.cobble(3, -2);
        paces(x, 0, 13, 4, 2, 2, 0);
        paces(x, 0, 31, 4, -4, 2, 0);
        S.says("up to 9 figures");
        x = rising();
        paces(x, 0, 111111111, 9, 6, 9, 0);
        paces(x, 0, 111111112, 10, 6, 9, 0);
        paces(x, 0, 311111111, 11, 6, 9, 0);
        paces(x, 0, 222222222, 15, 5, 8, 0);
        paces(x, 0, 333333333, 15, 2, 5, 0);
    }

    private static void tillItIsOver() {
        S.says("till it is over or the row ends");
        SmallCrown x = Sentences.road(4, 3, PLAIN, 0);
        x.cobble(3, 4);
        paces(x, 0, 1, 1, 0, 1, 0);
        paces(x, 0, 112, 4, 0, 3, 0);
        paces(x, 0, 1121, 4, 0, 3, 0);
        paces(x, 0, 223333333, 4, 0, 2, 0);
        paces(x, 0, 12, 3, 4, 2, 1);
        paces(x, 0, 1211, 3, 4, 2, 1);
        paces(x, 0, 3, 3, 4, 1, 1);
        x.cobble(4, -4);
        paces(x, 0, 22, 4, -4, 2, 1);
        S.says("walked by a HEAD from CELL 0, its SET: FALLEN at once");
        SmallCrown y = Sentences.road(4, 3, PLAIN, -4);
        paces(y, 0, 0, 0, -4, 0, 1);
        paces(y, 5, 123123123, 0, -4, 0, 1);
    }

    private static void stepsOfTheRow() {
        S.says("at STEP t (0 .. 5)");
        for (int i = 0; i <= 5; i++) {
            SmallCrown x = Sentences.road(15, 12, PLAIN, 0);
            x.wind(i, 3);
            for (int t = 0; t <= 5; t++) {
                paces(x, t, 1, 1, t == i ? 3 : 0, 1, 0);
                paces(x, t, 11, 2, t == i || (t + 1) % 6 == i ? 3 : 0, 2, 0);
                paces(x, t, 111111, 6, 3, 6, 0);
                paces(x, t, 1111111, 7, t == i ? 6 : 3, 7, 0);
            }
        }
    }

    private static void pacesRefused() {
        S.says("paces: BAD: -100");
        S.refused(Sentences::bare, BAD, -100, "paces", 0, 0, 0, 0);
        for (int head : NO_HEADS) {
            S.refused(Sentences::busy, BAD, -100, "paces", head, 0, 1, 0);
        }
        for (int t : NO_STEPS) {
            S.refused(Sentences::busy, BAD, -100, "paces", 0, t, 1, 0);
        }
        for (int what : new int[] {-1, 4, LEAST, MOST}) {
            S.refused(Sentences::busy, BAD, -100, "paces", 0, 0, 1, what);
        }
        S.says("paces: BAD: a row that is none");
        for (int row : new int[] {-1, 4, 9, 10, 14, 20, 41, 101, 130, 333333334, 433333333, 330333333, 111111110,
            1000000000, 1111111111, 2111111111, 2123123123, -123, LEAST, MOST}) {
            S.refused(Sentences::busy, BAD, -100, "paces", 0, 0, row, 0);
        }
    }

    private static void soonestSteps() {
        S.says("SOONEST: the fewest STEPS by which it comes to THE FOUNTAIN");
        for (int length = 1; length <= 15; length++) {
            for (int kind = 0; kind <= 5; kind++) {
                S.due((length + 2) / 3, Sentences.road(length, 12, kind, 0), "soonest", 0, 0, -1);
            }
        }
        S.says("not FALLEN (each STEP, that one too)");
        SmallCrown x = Sentences.road(6, 3, PLAIN, 0);
        x.cobble(3, 4);
        x.cobble(6, -4);
        S.due(-1, x, "soonest", 0, 0, -1);
        x.cobble(6, -3);
        S.due(3, x, "soonest", 0, 0, -1);
        x.cobble(6, 0);
        x.cobble(3, 3);
        S.due(2, x, "soonest", 0, 0, -1);
        S.says("SOONEST of a HEAD from STEP t, by winds that come again");
        SmallCrown y = Sentences.road(4, 2, PLAIN, 0);
        y.wind(0, 3);
        int[] steps = {-1, 2, 2, 2, 2, -1};
        for (int t = 0; t <= 5; t++) {
            S.due(steps[t], y, "soonest", 0, t, -1);
        }
    }

    private static void row(SmallCrown x, int t, int... paces) {
        S.due(paces.length, x, "soonest", 0, t, -1);
        for (int i = 0; i < paces.length; i++) {
            S.due(paces[i], x, "soonest", 0, t, i);
        }
        S.due(-5, x, "soonest", 0, t, paces.length);
    }

    private static void soonestRow() {
        S.says("the i-th PACE of the first such row");
        row(Sentences.road(1, 5, PLAIN, 0), 0, 1);
        row(Sentences.road(2, 5, PLAIN, 0), 0, 2);
        row(Sentences.road(3, 5, PLAIN, 0), 0, 3);
        row(Sentences.road(4, 5, PLAIN, 0), 0, 1, 3);
        row(Sentences.road(5, 5, PLAIN, 0), 0, 2, 3);
        row(Sentences.road(15, 5, PLAIN, 0), 5, 3, 3, 3, 3, 3);
        row(Sentences.road(13, 5, STIFF, 0), 0, 1, 3, 3, 3, 3);
        SmallCrown x = Sentences.road(4, 5, PLAIN, 4);
        x.cobble(1, 2);
        x.cobble(4, -1);
        row(x, 0, 2, 2);
        S.says("the first such row, where the last PACE goes beyond THE FOUNTAIN");
        SmallCrown s = Sentences.road(1, 3, SHORT, -3);
        s.wind(0, -3);
        s.cobble(1, 3);
        row(s, 0, 1);
        s.cobble(1, 2);
        row(s, 0, 3);
        S.says("-5: not so many.");
        S.due(-5, x, "soonest", 0, 0, 2);
        S.due(-5, x, "soonest", 0, 0, 15);
        S.due(-5, x, "soonest", 0, 0, MOST);
        S.due(0, x, "status", 0);
    }

    /** Each cobble makes up for the wind of the step that comes to it by paces of 1, and for no other's. */
    private static SmallCrown onlyByOnes() {
        return onlyByOnes(PLAIN);
    }

    private static SmallCrown onlyByOnes(int kind) {
        SmallCrown x = Sentences.road(15, 1, kind, 0);
        for (int i = 0; i <= 5; i++) {
            x.wind(i, 3 * (i % 3 - 1));
        }
        for (int c = 1; c <= 15; c++) {
            x.cobble(c, -3 * ((c - 1) % 3 - 1));
        }
        return x;
    }

    private static void soonestOfMostSteps() {
        S.says("SOONEST: the fewest STEPS, though they are as many as CELLS");
        row(onlyByOnes(), 0, 1, 1, 1, 1, 1, 1, 1, 1, 1, 1, 1, 1, 1, 1, 1);
        row(onlyByOnes(), 3, 1, 1, 1, 1, 1, 1, 1, 1, 1, 1, 1, 1, 1, 1, 1);
        SmallCrown x = onlyByOnes(SHORT);
        row(x, 0, 1, 1, 1, 1, 1, 1, 1, 1, 1, 1, 1, 1, 1, 1, 1);
        x.cobble(14, 1);
        x.cobble(15, -2);
        row(x, 0, 1, 1, 1, 1, 1, 1, 1, 1, 1, 1, 1, 1, 1, 1, 3);
        row(onlyByOnes(), 1, 2, 1, 1, 1, 1, 1, 1, 1, 1, 1, 1, 1, 1, 1);
        row(onlyByOnes(), 5, 3, 1, 1, 1, 1, 1, 1, 1, 1, 1, 1, 1, 1);
        S.due(2, onlyByOnes(), "hour", 0);
        S.due(15, onlyByOnes(), "sure", 0, 0, 0);
        S.due(0, onlyByOnes(), "flat", 0, 0);
        S.says("SOONEST: each STEP is a PACE (1 .. 3), none waits for a wind");
        SmallCrown y = Sentences.road(4, 2, STIFF, 0);
        y.cobble(4, 4);
        y.wind(0, -1);
        row(y, 5, 1, 3);
        row(y, 4, 1, 1, 2);
        row(y, 3, 1, 1, 1, 1);
        S.due(-1, y, "soonest", 0, 2, -1);
    }

    private static void soonestAtTheHold() {
        S.says("a LEAN of HOLD, or of that less than nothing, does not FALL");
        for (int set : new int[] {12, -12}) {
            for (int t = 0; t <= 5; t++) {
                SmallCrown x = Sentences.road(15, 12, PLAIN, set);
                row(x, t, 3, 3, 3, 3, 3);
                S.due(5, x, "sure", 0, t, 0);
                S.due(0, x, "flat", 0, t);
            }
            int out = set / 3;
            SmallCrown x = Sentences.road(15, 12, PLAIN, set);
            for (int c = 1; c <= 13; c++) {
                x.cobble(c, c % 3 == 0 ? 0 : out);
            }
            x.cobble(15, set / 4);
            x.wind(5, -set / 4);
            row(x, 0, 3, 3, 3, 3, 2, 1);
            S.due(6, x, "sure", 0, 0, 0);
            S.due(0, x, "flat", 0, 0);
        }
    }

    private static SmallCrown walled() {
        SmallCrown x = Sentences.road(3, 3, PLAIN, 0);
        x.cobble(3, 4);
        x.head(PLAIN, 4);
        x.head(PLAIN, -4);
        return x;
    }

    private static void soonestNone() {
        S.says("soonest: NONE: none.");
        for (int head = 0; head <= 2; head++) {
            for (int t = 0; t <= 5; t++) {
                S.changesNothing(PacesEdgesTest::walled, -1, "soonest", head, t, -1);
            }
        }
        S.changesNothing(PacesEdgesTest::walled, -1, "soonest", 0, 0, 0);
        S.changesNothing(PacesEdgesTest::walled, -1, "soonest", 0, 0, MOST);
    }

    private static void soonestRefused() {
        S.says("soonest: BAD: -10.");
        S.refused(Sentences::bare, BAD, -10, "soonest", 0, 0, -1);
        for (int head : NO_HEADS) {
            S.refused(Sentences::busy, BAD, -10, "soonest", head, 0, -1);
        }
        for (int t : NO_STEPS) {
            S.refused(Sentences::busy, BAD, -10, "soonest", 0, t, 0);
        }
        S.refused(Sentences::busy, BAD, -10, "soonest", 0, 0, -2);
        S.refused(Sentences::busy, BAD, -10, "soonest", 0, 0, LEAST);
        S.refused(PacesEdgesTest::walled, BAD, -10, "soonest", 0, 0, -2);
    }

    private static void hour() {
        S.says("HOUR: the STEP t (0 .. 5) from which that is soonest");
        for (int i = 0; i <= 5; i++) {
            SmallCrown x = Sentences.road(3, 3, PLAIN, 0);
            x.cobble(3, 4);
            x.wind(i, -1);
            S.due(i, x, "hour", 0);
        }
        S.says("of like ones the first");
        SmallCrown x = Sentences.road(3, 3, PLAIN, 0);
        S.due(0, x, "hour", 0);
        x.wind(0, -3);
        x.wind(1, 3);
        x.cobble(3, 1);
        S.due(0, x, "hour", 0);
        x.cobble(3, -1);
        S.due(1, x, "hour", 0);
        S.says("HOUR, by winds that come again");
        SmallCrown y = Sentences.road(4, 2, STIFF, 0);
        y.cobble(4, 4);
        y.wind(0, -1);
        S.due(2, y, "soonest", 0, 5, -1);
        S.due(3, y, "soonest", 0, 4, -1);
        S.due(5, y, "hour", 0);
        S.says("hour: NONE.");
        S.changesNothing(PacesEdgesTest::walled, -1, "hour", 0);
        S.changesNothing(PacesEdgesTest::walled, -1, "hour", 1);
        S.changesNothing(PacesEdgesTest::walled, -1, "hour", 2);
        S.says("hour: BAD.");
        S.refused(Sentences::bare, BAD, -2, "hour", 0);
        for (int head : NO_HEADS) {
            S.refused(Sentences::busy, BAD, -2, "hour", head);
        }
    }

    private static void sure() {
        S.says("SURE: by b (0 .. 3) this way, that way, or not at all");
        SmallCrown x = Sentences.road(9, 9, PLAIN, 0);
        for (int b = 0; b <= 3; b++) {
            S.due(3, x, "sure", 0, 0, b);
        }
        x.road(9, 8);
        x.head(PLAIN, 0);
        S.due(3, x, "sure", 0, 0, 2);
        S.due(-1, x, "sure", 0, 0, 3);
        S.says("the LEAN behind the STEP; that is what FALLS or not");
        SmallCrown y = Sentences.road(1, 3, PLAIN, 3);
        S.due(1, y, "sure", 0, 0, 0);
        S.due(-1, y, "sure", 0, 0, 1);
        y.cobble(1, -1);
        S.due(1, y, "sure", 0, 0, 1);
        S.due(-1, y, "sure", 0, 0, 2);
        y.cobble(1, -3);
        S.due(1, y, "sure", 0, 0, 3);
        y.cobble(1, -4);
        S.due(-1, y, "sure", 0, 0, 3);
        S.due(1, y, "sure", 0, 0, 2);
        S.says("SURE: a bow and the WIND of the next STEP together");
        for (int side = -1; side <= 1; side += 2) {
            SmallCrown x2 = Sentences.road(4, 2, PLAIN, 0);
            x2.wind(1, side);
            S.due(-1, x2, "sure", 0, 0, 1);
            S.due(2, x2, "sure", 0, 2, 1);
        }
        S.says("SURE: what he could do only by a bow does not count");
        y.cobble(1, 1);
        S.due(-1, y, "sure", 0, 0, 1);
        S.says("SURE from STEP t, by winds that come again");
        SmallCrown z = Sentences.road(4, 2, PLAIN, 0);
        z.wind(0, 3);
        int[] steps = {-1, 2, 2, 2, 2, -1};
        for (int t = 0; t <= 5; t++) {
            S.due(steps[t], z, "sure", 0, t, 0);
            S.due(steps[t], z, "sure", 0, t, 1);
        }
    }

    private static void sureNone() {
        S.says("in how many STEPS he comes to THE FOUNTAIN at the latest");
        SmallCrown x = Sentences.road(6, 4, NODDER, 0);
        S.due(2, x, "sure", 0, 0, 2);
        x.cobble(3, 3);
        S.due(2, x, "sure", 0, 0, 0);
        S.due(2, x, "sure", 0, 0, 1);
        S.due(3, x, "sure", 0, 0, 2);
        S.says("sure: NONE: he can be made to FALL.");
        S.changesNothing(PacesEdgesTest::walled, -1, "sure", 0, 0, 0);
        S.changesNothing(PacesEdgesTest::walled, -1, "sure", 0, 0, 3);
        S.changesNothing(PacesEdgesTest::walled, -1, "sure", 1, 0, 0);
        S.changesNothing(PacesEdgesTest::walled, -1, "sure", 2, 0, 3);
        S.due(-1, Sentences.road(15, 12, BOWED, 0), "sure", 0, 0, 3);
        S.due(5, Sentences.road(15, 12, BRED, 0), "sure", 0, 0, 2);
        S.due(-1, Sentences.road(15, 12, BRED, 0), "sure", 0, 0, 3);
    }

    private static void sureRefused() {
        S.says("sure: BAD.");
        S.refused(Sentences::bare, BAD, -2, "sure", 0, 0, 0);
        for (int head : NO_HEADS) {
            S.refused(Sentences::busy, BAD, -2, "sure", head, 0, 0);
        }
        for (int t : NO_STEPS) {
            S.refused(Sentences::busy, BAD, -2, "sure", 0, t, 0);
        }
        for (int b : new int[] {-1, 4, LEAST, MOST}) {
            S.refused(Sentences::busy, BAD, -2, "sure", 0, 0, b);
        }
    }

    private static SmallCrown cobbled(int length, int n) {
        SmallCrown x = Sentences.road(length, 3, PLAIN, 0);
        for (int c = 0; c <= length; c++) {
            x.cobble(c, n);
        }
        return x;
    }

    private static void flat() {
        S.says("FLAT, as bits: none is needed");
        S.due(0, Sentences.road(15, 1, PLAIN, 0), "flat", 0, 0);
        S.due(0, Sentences.busy(), "flat", 0, 0);
        S.says("CELLS (1 .. L; bits)");
        for (int length = 1; length <= 15; length++) {
            SmallCrown x = Sentences.road(length, 3, PLAIN, 0);
            x.cobble(0, 4);
            x.cobble(length, 4);
            S.due(1 << length, x, "flat", 0, 0);
            x.cobble(length, -4);
            S.due(1 << length, x, "flat", 0, 5);
        }
        S.due(2, cobbled(1, 4), "flat", 0, 0);
        S.says("FLAT from STEP t, by winds that come again");
        SmallCrown x = Sentences.road(4, 2, PLAIN, 0);
        x.wind(0, 2);
        for (int c = 1; c <= 4; c++) {
            x.cobble(c, 1);
        }
        S.due(1 << 1 | 1 << 4, x, "flat", 0, 5);
        S.due(0, x, "flat", 0, 4);
    }

    private static void flatOfLikeOnes() {
        S.says("FLAT: of like ones the least");
        S.due(1 << 3, cobbled(3, 4), "flat", 0, 0);
        S.due(1 << 1 | 1 << 4, cobbled(4, 4), "flat", 0, 0);
        S.due(1 << 2 | 1 << 5, cobbled(5, 4), "flat", 0, 0);
        S.due(1 << 1 | 1 << 4 | 1 << 7, cobbled(7, -4), "flat", 0, 0);
        SmallCrown x = Sentences.road(6, 3, PLAIN, 0);
        x.cobble(1, 2);
        x.cobble(2, 2);
        x.cobble(3, 2);
        x.cobble(6, 2);
        S.due(1 << 1, x, "flat", 0, 0);
        x.cobble(4, 4);
        x.cobble(5, 4);
        S.due(1 << 3, x, "flat", 0, 0);
        S.says("FLAT: the fewest CELLS, ahead of the least bits");
        SmallCrown y = Sentences.road(5, 3, PLAIN, 0);
        y.cobble(1, 4);
        y.cobble(2, 4);
        y.cobble(3, 4);
        y.cobble(4, 0);
        y.cobble(5, 3);
        S.due(1 << 1, y, "flat", 0, 0);
        y.cobble(1, 0);
        y.cobble(2, 3);
        y.cobble(3, 3);
        y.cobble(4, 3);
        S.due(1 << 2, y, "flat", 0, 0);
    }

    private static void flatThreeAtMost() {
        S.says("FLAT: 3 at most");
        S.due(1 << 3 | 1 << 6 | 1 << 9, cobbled(9, 4), "flat", 0, 0);
        for (int length = 10; length <= 15; length++) {
            S.due(-1, cobbled(length, 4), "flat", 0, 0);
            S.due(-1, cobbled(length, -4), "flat", 0, 0);
        }
        SmallCrown x = cobbled(12, 4);
        x.cobble(6, 3);
        S.due(1 << 3 | 1 << 9 | 1 << 12, x, "flat", 0, 0);
        S.says("flat: NONE.");
        S.due(-1, walled(), "flat", 1, 0);
        S.due(-1, walled(), "flat", 2, 0);
        SmallCrown y = Sentences.road(1, 1, PLAIN, 0);
        for (int i = 0; i <= 5; i++) {
            y.wind(i, 2);
        }
        S.due(-1, y, "flat", 0, 0);
        y.cobble(1, -4);
        S.due(-1, y, "flat", 0, 0);
        S.due(0, y, "status", 0);
    }

    private static void flatRefused() {
        S.says("flat: BAD.");
        S.refused(Sentences::bare, BAD, -2, "flat", 0, 0);
        for (int head : NO_HEADS) {
            S.refused(Sentences::busy, BAD, -2, "flat", head, 0);
        }
        for (int t : NO_STEPS) {
            S.refused(Sentences::busy, BAD, -2, "flat", 0, t);
        }
    }
}
