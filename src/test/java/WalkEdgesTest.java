/** The edges that the document names of steps, kinds of heads and walks: promises 9 to 14. */
public final class WalkEdgesTest {
    private static final Sentences S = new Sentences();
    private static final int LEAST = Sentences.LEAST, MOST = Sentences.MOST;
    private static final int BAD = Sentences.BAD, NO = Sentences.NO;
    private static final int PLAIN = 0, STIFF = 1, SHORT = 2, BOWED = 3, NODDER = 4, BRED = 5;

    private WalkEdgesTest() {
    }

    public static void main(String[] args) {
        windsComeAgain();
        falls();
        noFartherThanTheFountain();
        plain();
        stiff();
        shortSteps();
        bowed();
        nodder();
        bred();
        fallsByItsKind();
        walks();
        over();
        steps();
        hands();
        undoing();
        eightAtMost();
        of();
        now();
        S.end();
    }

    private static void windsComeAgain() {
        S.says("in STEP t it is the WIND of t by 6 left over");
        for (int i = 0; i <= 5; i++) {
            SmallCrown x = Sentences.road(15, 12, PLAIN, -6);
            x.wind(i, 3);
            x.walk(0);
            for (int t = 0; t < 15; t++) {
                x.step(1);
                int blown = (t >= i ? 1 : 0) + (t >= i + 6 ? 1 : 0) + (t >= i + 12 ? 1 : 0);
                S.due("wind " + i + ", lean behind step " + t, x.now(3), -6 + 3 * blown);
            }
        }
    }

    private static void falls() {
        S.says("a LEAN of more than that, or of less than that less than nothing, FALLS");
        for (int hold = 1; hold <= 12; hold++) {
            for (int side = -1; side <= 1; side += 2) {
                SmallCrown x = Sentences.road(3, hold, PLAIN, side * (hold - 1));
                x.wind(0, side);
                x.wind(1, side);
                x.walk(0);
                x.step(1);
                S.due("lean at hold " + hold, x.now(3), side * hold);
                S.due("fallen at hold " + hold, x.now(4), 0);
                S.due(2, x, "step", 1);
                S.due("lean beyond hold " + hold, x.now(3), side * (hold + 1));
                S.due("fallen beyond hold " + hold, x.now(4), 1);
            }
        }
    }

    private static void noFartherThanTheFountain() {
        S.says("one comes to c and p (L at most)");
        for (int length = 1; length <= 15; length++) {
            for (int pace = 1; pace <= 3; pace++) {
                SmallCrown x = Sentences.road(length, 12, PLAIN, 0);
                x.cobble(length, 3);
                x.walk(0);
                for (int cell = pace; cell < length; cell += pace) {
                    S.due(cell, x, "step", pace);
                }
                S.due(length, x, "step", pace);
                S.due("lean at fountain " + length, x.now(3), 3);
                S.due(-3, x, "step", pace);
            }
        }
        S.says("the COBBLE k of the CELL to which one comes");
        SmallCrown x = Sentences.road(4, 12, PLAIN, 0);
        x.cobble(0, 4);
        x.cobble(1, 3);
        x.cobble(2, -2);
        x.walk(0);
        S.due(0, x, "now", 3);
        S.due(2, x, "step", 2);
        S.due(-2, x, "now", 3);
    }

    /** The lean behind one step of a head of the kind, with a hold that the sums here stay within. */
    private static void lean(int want, int kind, int set, int cobble, int wind, int pace) {
        SmallCrown x = Sentences.road(8, 12, kind, set);
        x.cobble(pace, cobble);
        x.wind(0, wind);
        x.walk(0);
        x.step(pace);
        S.due("kind " + kind + " from " + set + " by " + cobble + ", " + wind + ", " + pace, x.now(3), want);
    }

    private static void plain() {
        S.says("0 PLAIN: l and k and w.");
        for (int pace = 1; pace <= 3; pace++) {
            lean(10, PLAIN, 3, 4, 3, pace);
            lean(-10, PLAIN, -3, -4, -3, pace);
            lean(0, PLAIN, 0, 0, 0, pace);
            lean(0, PLAIN, 1, -4, 3, pace);
        }
    }

    private static void stiff() {
        S.says("1 STIFF: as PLAIN, but 1 nearer to 0, if that is not 0.");
        for (int pace = 1; pace <= 3; pace++) {
            lean(0, STIFF, 0, 0, 0, pace);
            lean(0, STIFF, 2, -3, 1, pace);
            lean(0, STIFF, 1, 0, 0, pace);
            lean(0, STIFF, -1, 0, 0, pace);
            lean(1, STIFF, 0, 2, 0, pace);
            lean(-1, STIFF, 0, 0, -2, pace);
            lean(9, STIFF, 3, 4, 3, pace);
            lean(-9, STIFF, -3, -4, -3, pace);
        }
    }

    private static void shortSteps() {
        S.says("2 SHORT: as PLAIN with k twice, if p is 3; else as PLAIN.");
        lean(6, SHORT, 1, 4, 1, 1);
        lean(6, SHORT, 1, 4, 1, 2);
        lean(10, SHORT, 1, 4, 1, 3);
        lean(-8, SHORT, 0, -4, 0, 3);
        lean(-4, SHORT, 0, -4, 0, 2);
        lean(4, SHORT, 1, 0, 3, 3);
        S.says("SHORT: if p is 3, though THE FOUNTAIN is nearer");
        for (int kind : new int[] {SHORT, BRED}) {
            SmallCrown x = Sentences.road(1, 12, kind, 0);
            x.cobble(1, 4);
            x.walk(0);
            S.due(1, x, "step", 3);
            S.due(8, x, "now", 3);
        }
    }

    private static void bowed() {
        S.says("3 BOWED: 1 more than STIFF.");
        for (int pace = 1; pace <= 3; pace++) {
            lean(1, BOWED, 0, 0, 0, pace);
            lean(1, BOWED, 1, 0, 0, pace);
            lean(1, BOWED, -1, 0, 0, pace);
            lean(2, BOWED, 2, 0, 0, pace);
            lean(0, BOWED, -2, 0, 0, pace);
            lean(10, BOWED, 3, 4, 3, pace);
            lean(-8, BOWED, -3, -4, -3, pace);
        }
    }

    private static void nodder() {
        S.says("4 NODDER: as STIFF; below 0 for above, above for below, if p is 2.");
        for (int pace = 1; pace <= 3; pace++) {
            int side = pace == 2 ? -1 : 1;
            lean(0, NODDER, 0, 0, 0, pace);
            lean(0, NODDER, 1, 0, 0, pace);
            lean(0, NODDER, -1, 0, 0, pace);
            lean(side, NODDER, 2, 0, 0, pace);
            lean(-side, NODDER, -2, 0, 0, pace);
            lean(9 * side, NODDER, 3, 4, 3, pace);
            lean(-9 * side, NODDER, -3, -4, -3, pace);
        }
        S.says("NODDER: if p is 2, though THE FOUNTAIN is nearer");
        SmallCrown x = Sentences.road(1, 12, NODDER, 5);
        x.walk(0);
        S.due(1, x, "step", 2);
        S.due(-4, x, "now", 3);
    }

    private static void bred() {
        S.says("5 BRED: as SHORT with no WIND (w is 0).");
        for (int wind = -3; wind <= 3; wind++) {
            lean(5, BRED, 1, 4, wind, 1);
            lean(5, BRED, 1, 4, wind, 2);
            lean(9, BRED, 1, 4, wind, 3);
            lean(-9, BRED, -1, -4, wind, 3);
            lean(0, BRED, 0, 0, wind, 3);
        }
    }

    private static void fallsByItsKind(int kind, int set, int pace, int fallen) {
        SmallCrown x = Sentences.road(8, 3, kind, set);
        x.wind(0, set > 0 ? 2 : -2);
        x.walk(0);
        x.step(pace);
        S.due("kind " + kind + " from " + set + " by a wind of 2 at pace " + pace, x.now(4), fallen);
    }

    private static void fallsByItsKind() {
        S.says("KINDS of heads say the LEAN then; a LEAN of more than HOLD FALLS");
        for (int side = -1; side <= 1; side += 2) {
            fallsByItsKind(PLAIN, side, 1, 0);
            fallsByItsKind(PLAIN, 2 * side, 1, 1);
            fallsByItsKind(STIFF, 2 * side, 1, 0);
            fallsByItsKind(STIFF, 3 * side, 1, 1);
            fallsByItsKind(NODDER, 2 * side, 2, 0);
            fallsByItsKind(NODDER, 3 * side, 2, 1);
            fallsByItsKind(BRED, 3 * side, 1, 0);
        }
        fallsByItsKind(BOWED, 1, 1, 0);
        fallsByItsKind(BOWED, 2, 1, 1);
        fallsByItsKind(BOWED, -3, 1, 0);
    }

    private static void walks() {
        S.says("A SET of more than HOLD is FALLEN at once.");
        for (int hold = 1; hold <= 11; hold++) {
            for (int kind = 0; kind <= 5; kind++) {
                S.due(0, Sentences.road(8, hold, kind, hold), "walk", 0);
                S.due(0, Sentences.road(8, hold, kind, -hold), "walk", 0);
                S.due(1, Sentences.road(8, hold, kind, hold + 1), "walk", 0);
                S.due(1, Sentences.road(8, hold, kind, -hold - 1), "walk", 0);
            }
        }
        S.due(0, Sentences.road(8, 12, 0, 12), "walk", 0);
        S.due(0, Sentences.road(8, 12, 0, -12), "walk", 0);
        S.says("walk: BAD");
        S.refused(Sentences::bare, BAD, -2, "walk", 0);
        for (int head : new int[] {-1, 2, 4, 5, LEAST, MOST}) {
            S.refused(Sentences::busy, BAD, -2, "walk", head);
        }
        S.refused(Sentences::full, BAD, -2, "walk", 5);
        S.due(0, Sentences.full(), "walk", 4);
        S.says("A WALK of a HEAD: at CELL 0, STEP 0, its SET (one that there is is over)");
        SmallCrown x = Sentences.arrived();
        S.due(0, x, "walk", 1);
        int[] views = {1, 0, 0, -3, 0};
        for (int what = 0; what < views.length; what++) {
            S.due(views[what], x, "now", what);
        }
        S.says("behind a WALK that begins none may be");
        S.due(0, x, "count", 4);
        S.due(-3, x, "undo");
    }

    private static void over() {
        S.says("It is over, if it is FALLEN, or at THE FOUNTAIN.");
        SmallCrown x = Sentences.fallen();
        S.due(1, x, "now", 4);
        S.due(1, x, "now", 1);
        S.due(-3, x, "step", 1);
        S.due(1, x, "now", 2);
        SmallCrown y = Sentences.arrived();
        S.due(0, y, "now", 4);
        S.due(8, y, "now", 1);
        S.due(-3, y, "step", 1);
        SmallCrown z = Sentences.road(8, 1, 0, 2);
        S.due(1, z, "walk", 0);
        S.due(-3, z, "step", 1);
        S.due(0, z, "now", 1);
    }

    private static void steps() {
        S.says("A STEP: the CELL.");
        SmallCrown x = Sentences.road(6, 5, 0, 0);
        x.walk(0);
        S.due(1, x, "step", 1);
        S.due(3, x, "step", 2);
        S.due(6, x, "step", 3);
        S.says("step: BAD: -10");
        for (int pace : new int[] {0, 4, -1, -3, LEAST, MOST}) {
            S.refused(Sentences::busy, BAD, -10, "step", pace);
        }
        S.says("step: NO: no WALK, it is over.");
        for (int pace = 1; pace <= 3; pace++) {
            S.refused(Sentences::bare, NO, -3, "step", pace);
            S.refused(Sentences::arrived, NO, -3, "step", pace);
            S.refused(Sentences::fallen, NO, -3, "step", pace);
        }
        S.says("Refused, the first of: BAD, NO");
        S.refused(Sentences::bare, BAD, -10, "step", 0);
        S.refused(Sentences::arrived, BAD, -10, "step", 4);
        S.refused(Sentences::fallen, BAD, -10, "step", -1);
    }

    private static void hands() {
        S.says("A hand sets the crown right: the LEAN that it had (it may be below 0).");
        SmallCrown x = Sentences.road(2, 5, 0, -5);
        x.walk(0);
        S.due(-5, x, "hand");
        S.due(0, x, "now", 3);
        S.due(0, x, "hand");
        S.due(2, x, "count", 4);
        S.due(0, x, "now", 1);
        S.due(0, x, "now", 2);
        S.says("FALLEN or not, it is not now");
        SmallCrown y = Sentences.fallen();
        int had = y.now(3);
        S.due(8, y, "now", 3);
        S.due(had, y, "hand");
        S.due(0, y, "now", 4);
        S.due(2, y, "step", 1);
        SmallCrown z = Sentences.road(8, 1, 0, -12);
        z.walk(0);
        S.due(-12, z, "hand");
        S.due(0, z, "now", 4);
        S.due(1, z, "step", 1);
        S.says("hand: NO: -99: no WALK, it is at THE FOUNTAIN and not FALLEN.");
        S.refused(Sentences::bare, NO, -99, "hand");
        S.refused(Sentences::arrived, NO, -99, "hand");
        SmallCrown f = Sentences.road(1, 1, 0, 0);
        f.cobble(1, -4);
        f.walk(0);
        f.step(1);
        S.due(1, f, "now", 4);
        S.due(-4, f, "hand");
        S.due(0, f, "now", 4);
        S.due(-99, f, "hand");
        S.due(-3, f, "step", 1);
        S.due(2, f, "count", 4);
    }

    private static void undoing() {
        S.says("UNDO: the WALK as ahead of the last STEP, hand: the CELL then.");
        SmallCrown x = Sentences.fallen();
        x.hand();
        x.step(3);
        S.due(1, x, "undo");
        S.due(0, x, "now", 3);
        S.due(1, x, "undo");
        S.due(8, x, "now", 3);
        S.due(1, x, "now", 4);
        S.due(-3, x, "step", 1);
        S.due(0, x, "undo");
        S.due(1, x, "now", 3);
        S.due(0, x, "now", 4);
        S.due(0, x, "now", 2);
        S.due(0, x, "now", 0);
        SmallCrown y = Sentences.arrived();
        S.due(7, y, "undo");
        S.due(8, y, "step", 2);
        S.says("undo: NO: none may be.");
        S.due(-3, x, "undo");
        S.refused(Sentences::bare, NO, -3, "undo");
        SmallCrown z = Sentences.busy();
        z.walk(1);
        S.due(-3, z, "undo");
        S.says("a refused STEP or hand is none to be undone");
        SmallCrown a = Sentences.arrived();
        int were = a.count(4);
        a.step(1);
        a.step(0);
        a.hand();
        S.due(were, a, "count", 4);
    }

    private static void eightAtMost() {
        S.says("UNDO (8 at most)");
        SmallCrown x = Sentences.road(15, 5, 0, 0);
        x.walk(0);
        for (int i = 1; i <= 15; i++) {
            x.step(1);
            S.due(Math.min(i, 8), x, "count", 4);
        }
        for (int i = 14; i >= 7; i--) {
            S.due(i, x, "undo");
            S.due(i, x, "now", 2);
        }
        S.due(-3, x, "undo");
        S.due(7, x, "now", 1);
        S.due(0, x, "count", 4);
        S.due(8, x, "step", 1);
        S.due(7, x, "undo");
        S.says("UNDO (8 at most): each with its LEAN");
        SmallCrown y = Sentences.road(15, 12, PLAIN, 0);
        y.walk(0);
        for (int c = 1; c <= 12; c++) {
            y.cobble(c, 1);
            y.step(1);
        }
        for (int i = 11; i >= 4; i--) {
            S.due(i, y, "undo");
            S.due(i, y, "now", 3);
        }
        S.due(-3, y, "undo");
    }

    private static void of() {
        S.says("Of a HEAD: KIND (0), SET (1; it may be below 0).");
        SmallCrown x = Sentences.busy();
        S.due(0, x, "of", 0, 0);
        S.due(1, x, "of", 0, 1);
        S.due(4, x, "of", 1, 0);
        S.due(-3, x, "of", 1, 1);
        S.changesNothing(Sentences::full, 2, "of", 4, 0);
        S.says("of: BAD: -100");
        S.refused(Sentences::bare, BAD, -100, "of", 0, 0);
        for (int head : new int[] {-1, 2, 5, LEAST, MOST}) {
            S.refused(Sentences::busy, BAD, -100, "of", head, 0);
        }
        S.refused(Sentences::full, BAD, -100, "of", 5, 1);
        for (int what : new int[] {-1, 2, LEAST, MOST}) {
            S.refused(Sentences::busy, BAD, -100, "of", 0, what);
        }
    }

    private static void now() {
        S.says("the HEAD (0; NONE: no WALK, then all others are 0)");
        SmallCrown ended = Sentences.fallen();
        ended.road(8, 1);
        for (SmallCrown x : new SmallCrown[] {Sentences.bare(), ended}) {
            S.due(-1, x, "now", 0);
            for (int what = 1; what <= 4; what++) {
                S.due(0, x, "now", what);
            }
        }
        S.says("CELL (1), STEP (2), LEAN (3; it may be below 0), whether FALLEN (4; 1, 0).");
        SmallCrown x = Sentences.road(8, 5, 0, -5);
        x.head(0, -4);
        x.wind(0, -2);
        x.walk(1);
        x.step(2);
        int[] views = {1, 2, 1, -6, 1};
        for (int what = 0; what < views.length; what++) {
            S.due(views[what], x, "now", what);
        }
        S.changesNothing(Sentences::busy, 3, "now", 1);
        S.says("now: BAD: -100");
        for (int what : new int[] {-1, 5, LEAST, MOST}) {
            S.refused(Sentences::busy, BAD, -100, "now", what);
            S.refused(Sentences::bare, BAD, -100, "now", what);
        }
    }
}
