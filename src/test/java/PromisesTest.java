/** Each promise by itself, with answers reckoned by hand from the document. */
public final class PromisesTest {
    private static final Due DUE = new Due();

    private PromisesTest() {
    }

    public static void main(String[] args) {
        promise1New();
        promise2Road();
        promise3Cobble();
        promise4Wind();
        promise5Head();
        promise6Type();
        promise7Clear();
        promise8Read();
        promise8Faults();
        promise9Walk();
        promise10Step();
        promise10Kinds();
        promise11Hand();
        promise12Undo();
        promise13Of();
        promise14Now();
        promise15Paces();
        promise16Soonest();
        promise17Hour();
        promise18Sure();
        promise19Flat();
        promise20Note();
        promise21Forget();
        promise22Is();
        promise23Bowl();
        promise24Bowed();
        promise25Pigeons();
        promise26Crowned();
        promise27Part();
        promise28And29Images();
        promise30Status();
        promise31Count();
        promise32Digest();
        DUE.end();
    }

    private static void due(String call, long got, long want) {
        DUE.is(call, got, want);
    }

    private static void type(SmallCrown x, String text) {
        for (int i = 0; i < text.length(); i++) {
            x.type(text.charAt(i));
        }
    }

    private static int read(String text) {
        SmallCrown x = new SmallCrown();
        type(x, text);
        return x.read();
    }

    private static void refusals(String where, SmallCrown x, int bad, int no, int full) {
        due(where + ": status(0)", x.status(0), bad);
        due(where + ": status(1)", x.status(1), no);
        due(where + ": status(2)", x.status(2), full);
    }

    private static void promise1New() {
        SmallCrown x = new SmallCrown();
        int[] counts = {0, 8, 5, 0, 0, 0};
        for (int i = 0; i < counts.length; i++) {
            due("new: count(" + i + ")", x.count(i), counts[i]);
        }
        due("new: now(0)", x.now(0), -1);
        for (int i = 1; i < 5; i++) {
            due("new: now(" + i + ")", x.now(i), 0);
        }
        due("new: part(0)", x.part(0), 0);
        due("new: part(1)", x.part(1), 1);
        for (int c = 0; c <= 8; c++) {
            due("new: cobble of " + c, x.cobble(c, 0), 0);
        }
        for (int i = 0; i < 6; i++) {
            due("new: wind " + i, x.wind(i, 0), 0);
        }
        refusals("new", x, 0, 0, 0);
        due("new: from(0)", x.from(0), SmallCrown.NO);
        due("new: from(1)", x.from(1), SmallCrown.NO);
        due("constants", SmallCrown.NONE * 1000 + SmallCrown.BAD * 100 + SmallCrown.NO * 10 + SmallCrown.FULL, -1234);
    }

    private static void promise2Road() {
        SmallCrown x = new SmallCrown();
        x.head(0, 0);
        x.head(1, 1);
        x.cobble(3, 4);
        x.wind(2, 1);
        x.walk(1);
        x.step(1);
        x.note(0, 0, 1, -1);
        x.image(0);
        x.type(32);
        x.pigeons(0, 3, 10);
        x.walk(7);
        long below = x.part(1);
        due("road: two heads", x.road(15, 12), 2);
        due("road: no heads", x.count(0), 0);
        due("road: L", x.count(1), 15);
        due("road: hold", x.count(2), 12);
        due("road: notes", x.count(3), 0);
        due("road: undos", x.count(4), 0);
        due("road: text stays", x.count(5), 1);
        due("road: no walk", x.now(0), -1);
        due("road: cell", x.now(1), 0);
        due("road: step", x.now(2), 0);
        due("road: lean", x.now(3), 0);
        due("road: cobble", x.cobble(3, 0), 0);
        due("road: wind", x.wind(2, 0), 0);
        due("road: fraction stays", x.part(1), below);
        due("road: status stays", x.status(0), 1);
        due("road: image stays", x.from(0), 1);
        due("road: heads of the image", x.count(0), 2);
        int[][] wrong = {{0, 5}, {16, 5}, {8, 0}, {8, 13}, {-1, 5}, {Integer.MAX_VALUE, 5}, {8, Integer.MIN_VALUE}};
        for (int[] pair : wrong) {
            due("road(" + pair[0] + ", " + pair[1] + ")", x.road(pair[0], pair[1]), SmallCrown.BAD);
        }
        due("road: refused changes nothing", x.count(0), 2);
        due("road(1, 1)", x.road(1, 1), 2);
        refusals("road", x, 8, 0, 0);
    }

    private static void promise3Cobble() {
        SmallCrown x = new SmallCrown();
        due("cobble(8, -4)", x.cobble(8, -4), 0);
        due("cobble(8, 4)", x.cobble(8, 4), -4);
        due("cobble(8, 0)", x.cobble(8, 0), 4);
        due("cobble(0, 1)", x.cobble(0, 1), 0);
        due("cobble(0, 1) again", x.cobble(0, 1), 1);
        due("cobble(9, 0)", x.cobble(9, 0), -10);
        due("cobble(-1, 0)", x.cobble(-1, 0), -10);
        due("cobble(1, 5)", x.cobble(1, 5), -10);
        due("cobble(1, -5)", x.cobble(1, -5), -10);
        due("cobble(MAX, 0)", x.cobble(Integer.MAX_VALUE, 0), -10);
        x.road(3, 5);
        due("cobble(4, 0) of 3", x.cobble(4, 0), -10);
        x.road(15, 5);
        due("cobble(15, 1)", x.cobble(15, 1), 0);
        refusals("cobble", x, 6, 0, 0);
    }

    private static void promise4Wind() {
        SmallCrown x = new SmallCrown();
        due("wind(5, -3)", x.wind(5, -3), 0);
        due("wind(5, 3)", x.wind(5, 3), -3);
        due("wind(5, 0)", x.wind(5, 0), 3);
        due("wind(6, 0)", x.wind(6, 0), -10);
        due("wind(-1, 0)", x.wind(-1, 0), -10);
        due("wind(0, 4)", x.wind(0, 4), -10);
        due("wind(0, -4)", x.wind(0, -4), -10);
        due("wind(0, 0) stayed", x.wind(0, 0), 0);
        refusals("wind", x, 4, 0, 0);
    }

    private static void promise5Head() {
        SmallCrown x = new SmallCrown();
        due("head(6, 0)", x.head(6, 0), -2);
        due("head(-1, 0)", x.head(-1, 0), -2);
        due("head(0, 13)", x.head(0, 13), -2);
        due("head(0, -13)", x.head(0, -13), -2);
        for (int i = 0; i < 5; i++) {
            due("head " + i, x.head(5 - i, i % 2 == 0 ? 12 : -12), i);
        }
        due("6th head", x.head(0, 0), -4);
        due("6th head, bad first", x.head(6, 0), -2);
        due("heads", x.count(0), 5);
        refusals("head", x, 5, 0, 1);
    }

    private static void promise6Type() {
        SmallCrown x = new SmallCrown();
        due("type(128)", x.type(128), -2);
        due("type(-1)", x.type(-1), -2);
        for (int i = 1; i <= 150; i++) {
            due("type " + i, x.type(i % 128), i);
        }
        due("type 151", x.type(0), -4);
        due("type 151, bad first", x.type(128), -2);
        due("bytes", x.count(5), 150);
        refusals("type", x, 3, 0, 1);
    }

    private static void promise7Clear() {
        SmallCrown x = new SmallCrown();
        due("clear() of none", x.clear(), 0);
        type(x, "road 9 9;");
        due("clear()", x.clear(), 9);
        due("bytes", x.count(5), 0);
        due("read() of none", x.read(), -10);
        due("type behind clear", x.type(65), 1);
    }

    private static void promise8Read() {
        SmallCrown x = new SmallCrown();
        x.head(0, 0);
        x.walk(0);
        x.step(1);
        x.note(0, 0, 1, -1);
        x.image(1);
        x.pigeons(0, 3, 5);
        x.walk(9);
        String text = " road 15 01;cobble 15 4;hole 0 3;wind 5 3 ;lull 00 2;head 5 12;bent 4 12;cobble 15 2;  ";
        type(x, text);
        due("read()", x.read(), 8);
        int[] counts = {2, 15, 1, 0, 0, text.length()};
        for (int i = 0; i < counts.length; i++) {
            due("read: count(" + i + ")", x.count(i), counts[i]);
        }
        due("read: no walk", x.now(0), -1);
        due("read: cobble 15", x.cobble(15, 0), 2);
        due("read: cobble 0", x.cobble(0, 0), -3);
        due("read: wind 5", x.wind(5, 0), 3);
        due("read: wind 0", x.wind(0, 0), -2);
        due("read: kind 0", x.of(0, 0), 5);
        due("read: set 0", x.of(0, 1), 12);
        due("read: kind 1", x.of(1, 0), 4);
        due("read: set 1", x.of(1, 1), -12);
        due("read: nothing to undo", x.undo(), -3);
        due("read: fraction stays", x.part(1), 1);
        due("read: status stays", x.status(0), 1);
        due("read again takes the place of all", x.read(), 8);
        due("read again: cobble 15", x.cobble(15, 0), 2);
        due("read: image stays", x.from(1), 1);
        due("read: L of the image", x.count(1), 8);
    }

    private static void promise8Faults() {
        Object[][] faults = {
            {"", 0}, {"   ", 3}, {"road", 4}, {"road ", 5}, {"road 8 5", 8}, {"road 8 5 ", 9},
            {"roads 8 5;", 0}, {"roa", 0}, {" cobble 1 1;", 1}, {";", 0}, {"8", 0}, {"Road 8 5;", 0},
            {"road 0 5;", 5}, {"road 16 5;", 5}, {"road 8 0;", 7}, {"road 8 13;", 7}, {"road 008 5;", 5},
            {"road 123 5;", 5}, {"road 8 005;", 7}, {"road x 5;", 5}, {"road ;", 5}, {"road 8 ;", 7},
            {"road 8 5 5;", 9}, {"road 8 5 x;", 9}, {"road 8 5;;", 9}, {"road 8 5;road 8 5;", 9},
            {"road 8 5;he", 9}, {"road 8 5; 7", 10}, {"road 8 5;cobble 9 0;", 16}, {"road 8 5;hole 9 0;", 14},
            {"road 8 5;cobble 8 5;", 18}, {"road 8 5;hole 8 5;", 16}, {"road 8 5;cobble -1 0;", 16},
            {"road 8 5;wind 6 0;", 14}, {"road 8 5;wind 5 4;", 16}, {"road 8 5;lull 6 0;", 14},
            {"road 8 5;lull 0 4;", 16}, {"road 8 5;head 6 0;", 14}, {"road 8 5;head 0 13;", 16},
            {"road 8 5;bent 6 0;", 14}, {"road 8 5;bent 5 13;", 16}, {"road 8 5;head 0 0", 17},
            {"road 8 5;head 0", 15}, {"road 8 5;head", 13}, {"road 8 5;\t", 9}, {"road 8 5X;", 8},
            {"road\0 8 5;", 4}, {"road 8 5{;", 8}, {"road` 8 5;", 4}, {"road 8/5;", 6}, {"road 8:5;", 6},
            {"road 8 5;head0 0;head0 0;head0 0;bent0 0;head0 0;bent0 0;", 49},
            {"road 8 5;head0 0;head0 0;head0 0;bent0 0;head0 0;head", 49},
            {"toad 8 5;", 0}, {"roadz 8 5;", 0}, {"roada 8 5;", 0}, {"road 8 5;dead 0 0;", 9},
            {"road 8 5;sent 0 0;", 9}, {"road 8 5;full 0 0;", 9}, {"road 8 5;mind 0 0;", 9},
            {"road 8 5;pole 0 0;", 9}, {"road 8 5;gobble 0 0;", 9}, {"road 8 5;cobbles 0 0;", 9},
            {"road 8 5;hole 08 04;cobble 09 0;", 27}, {"road 8 5 " + " ".repeat(141), 150},
        };
        for (Object[] fault : faults) {
            due("read of [" + fault[0] + "]", read((String) fault[0]), -10 - (Integer) fault[1]);
        }
        due("read without blanks", read("road8 5;cobble1 1;wind1 1;bent1 1;"), 4);
        due("read of the shortest", read("road 1 1;"), 1);
        due("read of 150 bytes", read("road 8 5" + " ".repeat(141) + ";"), 1);
        due("read of 150 bytes, a fault in the last", read("road 8 5;" + " ".repeat(140) + "z"), -159);
        SmallCrown x = new SmallCrown();
        x.head(3, 3);
        x.walk(0);
        x.step(2);
        x.hand();
        type(x, "road 9 9;head 0 0;head 7 0;");
        long before = x.digest();
        due("read: a fault", x.read(), -33);
        due("read: all stays at a fault", x.digest(), before);
        refusals("read", x, 0, 0, 0);
    }

    private static void promise9Walk() {
        SmallCrown x = new SmallCrown();
        due("walk(0) of none", x.walk(0), -2);
        x.head(0, 5);
        x.head(1, 6);
        x.head(2, -6);
        x.head(3, -5);
        due("walk(0)", x.walk(0), 0);
        due("walk(1)", x.walk(1), 1);
        due("walk(2)", x.walk(2), 1);
        due("walk(3)", x.walk(3), 0);
        x.step(1);
        x.step(1);
        due("walk(4)", x.walk(4), -2);
        due("walk(-1)", x.walk(-1), -2);
        due("walk: refused, it goes on", x.now(1), 2);
        due("walk(0) again", x.walk(0), 0);
        due("walk: head", x.now(0), 0);
        due("walk: cell", x.now(1), 0);
        due("walk: step", x.now(2), 0);
        due("walk: lean", x.now(3), 5);
        due("walk: nothing to undo", x.undo(), -3);
        refusals("walk", x, 3, 1, 0);
    }

    private static void promise10Step() {
        SmallCrown x = new SmallCrown();
        due("step(1): no walk", x.step(1), -3);
        due("step(0): bad first", x.step(0), -10);
        due("step(4)", x.step(4), -10);
        x.road(7, 12);
        x.head(0, 0);
        for (int i = 0; i < 6; i++) {
            x.wind(i, i % 2 == 0 ? i / 2 + 1 : 0);
        }
        x.cobble(7, -4);
        x.cobble(2, 2);
        x.walk(0);
        int[] leans = {1, 3, 5, 5, 8, 8, 5};
        for (int i = 0; i < 7; i++) {
            due("step to " + (i + 1), x.step(1), i + 1);
            due("step: lean at " + (i + 1), x.now(3), leans[i]);
            due("step: steps", x.now(2), i + 1);
        }
        due("step: over at the fountain", x.step(1), -3);
        x.walk(0);
        x.step(3);
        x.step(3);
        due("step: no farther than the fountain", x.step(3), 7);
        x.road(8, 3);
        x.head(0, 3);
        x.cobble(1, 1);
        x.walk(0);
        due("step: falls", x.step(1), 1);
        due("step: fallen", x.now(4), 1);
        due("step: lean", x.now(3), 4);
        due("step: over as fallen", x.step(1), -3);
        refusals("step", x, 2, 3, 0);
    }

    /** From lean 3 with cobble 2 and wind -4 + 3, at paces 1, 2, 3; then the mirror of it. */
    private static void promise10Kinds() {
        int[][] right = {{4, 4, 4}, {3, 3, 3}, {4, 4, 6}, {4, 4, 4}, {3, -3, 3}, {5, 5, 7}};
        int[][] left = {{-4, -4, -4}, {-3, -3, -3}, {-4, -4, -6}, {-2, -2, -2}, {-3, 3, -3}, {-5, -5, -7}};
        for (int kind = 0; kind < 6; kind++) {
            for (int pace = 1; pace <= 3; pace++) {
                due("kind " + kind + " at " + pace, leanBehind(kind, 3, 2, -1, pace), right[kind][pace - 1]);
                due("kind " + kind + " left at " + pace, leanBehind(kind, -3, -2, 1, pace), left[kind][pace - 1]);
            }
        }
        int[] atNothing = {0, 0, 0, 1, 0, 0};
        for (int kind = 0; kind < 6; kind++) {
            due("kind " + kind + " at nothing", leanBehind(kind, 0, 0, 0, 2), atNothing[kind]);
        }
        due("a short step of 3 that the fountain cuts", cutShort(2), 4);
        due("a bred step of 3 that the fountain cuts", cutShort(5), 4);
        due("a nod of 2 that the fountain cuts", cutShort(4), 1);
    }

    private static int leanBehind(int kind, int set, int cobble, int wind, int pace) {
        SmallCrown x = new SmallCrown();
        x.road(8, 12);
        x.head(kind, set);
        x.cobble(pace, cobble);
        x.wind(0, wind);
        x.walk(0);
        x.step(pace);
        return x.now(3);
    }

    private static int cutShort(int kind) {
        SmallCrown x = new SmallCrown();
        x.road(1, 12);
        x.head(kind, 0);
        x.cobble(1, 2);
        x.walk(0);
        x.step(kind == 4 ? 2 : 3);
        return kind == 4 ? -x.now(3) : x.now(3);
    }

    private static void promise11Hand() {
        SmallCrown x = new SmallCrown();
        due("hand: no walk", x.hand(), -99);
        x.road(2, 2);
        x.head(0, -3);
        x.cobble(2, 4);
        x.walk(0);
        due("hand: fallen at once", x.hand(), -3);
        due("hand: lean", x.now(3), 0);
        due("hand: not fallen now", x.now(4), 0);
        due("hand: not fallen, too", x.hand(), 0);
        due("hand: no step", x.now(2), 0);
        x.step(2);
        due("hand: fallen in the fountain", x.now(4), 1);
        due("hand: fallen in the fountain, set right", x.hand(), 4);
        due("hand: cell", x.now(1), 2);
        due("hand: at the fountain", x.hand(), -99);
        due("hand: it is over", x.step(1), -3);
        refusals("hand", x, 0, 3, 0);
    }

    private static void promise12Undo() {
        SmallCrown x = new SmallCrown();
        due("undo: no walk", x.undo(), -3);
        x.road(15, 12);
        x.head(0, 2);
        x.walk(0);
        due("undo: none yet", x.undo(), -3);
        x.cobble(3, 4);
        x.step(3);
        x.hand();
        x.cobble(3, 1);
        due("undo: the hand", x.undo(), 3);
        due("undo: lean", x.now(3), 6);
        due("undo: step", x.now(2), 1);
        due("undo: the step", x.undo(), 0);
        due("undo: lean at first", x.now(3), 2);
        due("undo: step at first", x.now(2), 0);
        due("undo: the cobble stays", x.cobble(3, 1), 1);
        due("undo: none left", x.undo(), -3);
        for (int i = 0; i < 10; i++) {
            x.step(1);
        }
        due("undo: eight at most", x.count(4), 8);
        for (int i = 9; i >= 2; i--) {
            due("undo to " + i, x.undo(), i);
        }
        due("undo: no ninth", x.undo(), -3);
        due("undo: it stays", x.now(1), 2);
        x.step(1);
        x.step(0);
        due("undo: a refused step is none", x.count(4), 1);
        x.walk(0);
        due("undo: none behind a walk that begins", x.count(4), 0);
        refusals("undo", x, 1, 4, 0);
    }

    private static void promise13Of() {
        SmallCrown x = new SmallCrown();
        due("of: no head", x.of(0, 0), -100);
        x.head(4, -12);
        x.head(5, 12);
        due("of(0, 0)", x.of(0, 0), 4);
        due("of(0, 1)", x.of(0, 1), -12);
        due("of(1, 0)", x.of(1, 0), 5);
        due("of(1, 1)", x.of(1, 1), 12);
        due("of(2, 0)", x.of(2, 0), -100);
        due("of(-1, 0)", x.of(-1, 0), -100);
        due("of(0, 2)", x.of(0, 2), -100);
        due("of(0, -1)", x.of(0, -1), -100);
        refusals("of", x, 5, 0, 0);
    }

    private static void promise14Now() {
        SmallCrown x = new SmallCrown();
        due("now(0)", x.now(0), -1);
        due("now(5)", x.now(5), -100);
        due("now(-1)", x.now(-1), -100);
        x.head(0, 0);
        x.head(0, -2);
        x.cobble(2, -4);
        x.walk(1);
        x.step(2);
        int[] views = {1, 2, 1, -6, 1};
        for (int i = 0; i < views.length; i++) {
            due("now(" + i + ") of a walk", x.now(i), views[i]);
        }
        refusals("now", x, 2, 0, 0);
    }

    private static void paces(SmallCrown x, int t, int row, int[] ends) {
        for (int i = 0; i < ends.length; i++) {
            due("paces(0, " + t + ", " + row + ", " + i + ")", x.paces(0, t, row, i), ends[i]);
        }
    }

    private static void promise15Paces() {
        SmallCrown x = new SmallCrown();
        x.head(0, 1);
        x.cobble(1, 1);
        x.cobble(3, -3);
        x.cobble(4, 2);
        x.wind(0, 2);
        x.wind(5, -2);
        paces(x, 0, 0, new int[] {0, 1, 0, 0});
        paces(x, 0, 1, new int[] {1, 4, 1, 0});
        paces(x, 0, 13, new int[] {4, 6, 2, 1});
        paces(x, 0, 131, new int[] {4, 6, 2, 1});
        paces(x, 0, 31, new int[] {4, 2, 2, 0});
        paces(x, 5, 12, new int[] {3, -1, 2, 0});
        paces(x, 4, 12, new int[] {3, -3, 2, 0});
        paces(x, 1, 333333333, new int[] {8, -2, 3, 0});
        paces(x, 1, 111111111, new int[] {8, 1, 8, 0});
        int[][] wrong = {{1, 0, 0, 0}, {-1, 0, 0, 0}, {0, 6, 0, 0}, {0, -1, 0, 0}, {0, 0, 4, 0}, {0, 0, 10, 0},
            {0, 0, -1, 0}, {0, 0, 1111111111, 0}, {0, 0, 103, 0}, {0, 0, 0, 4}, {0, 0, 0, -1},
            {0, 0, Integer.MAX_VALUE, 0}, {0, 0, Integer.MIN_VALUE, 0}};
        long before = x.digest();
        for (int[] a : wrong) {
            due("paces, wrong " + a[2], x.paces(a[0], a[1], a[2], a[3]), -100);
        }
        due("paces changes nothing", x.digest(), before);
        x.head(1, -6);
        due("paces: fallen at once", x.paces(1, 0, 11, 3), 1);
        due("paces: fallen at once, in 0", x.paces(1, 0, 11, 0), 0);
        due("paces: fallen at once, no steps", x.paces(1, 0, 11, 2), 0);
        refusals("paces", x, wrong.length, 0, 0);
    }

    private static void promise16Soonest() {
        SmallCrown x = new SmallCrown();
        x.head(0, 0);
        due("soonest: three steps", x.soonest(0, 0, -1), 3);
        int[] first = {2, 3, 3, -5};
        for (int i = 0; i < first.length; i++) {
            due("soonest: the first row at " + i, x.soonest(0, 0, i), first[i]);
        }
        due("soonest: far beyond", x.soonest(0, 0, Integer.MAX_VALUE), -5);
        x.cobble(2, 4);
        x.cobble(5, 2);
        due("soonest: still by 2", x.soonest(0, 0, 0), 3);
        x.road(2, 3);
        x.head(0, 0);
        x.cobble(2, 4);
        due("soonest: falls in the fountain", x.soonest(0, 0, -1), -1);
        due("soonest: none, no first pace", x.soonest(0, 0, 0), -1);
        due("soonest: none, no tenth pace", x.soonest(0, 0, 10), -1);
        x.wind(4, -1);
        due("soonest: by the wind", x.soonest(0, 4, -1), 1);
        due("soonest: by the wind, a step ahead", x.soonest(0, 3, -1), 2);
        due("soonest: by the wind, first", x.soonest(0, 3, 0), 1);
        due("soonest: by the wind, then", x.soonest(0, 3, 1), 1);
        x.head(0, 4);
        due("soonest: fallen at once", x.soonest(1, 4, -1), -1);
        due("soonest(2, 0, -1)", x.soonest(2, 0, -1), -10);
        due("soonest(-1, 0, -1)", x.soonest(-1, 0, -1), -10);
        due("soonest(0, 6, -1)", x.soonest(0, 6, -1), -10);
        due("soonest(0, -1, -1)", x.soonest(0, -1, -1), -10);
        due("soonest(0, 0, -2)", x.soonest(0, 0, -2), -10);
        refusals("soonest", x, 5, 0, 0);
    }

    private static void promise17Hour() {
        SmallCrown x = new SmallCrown();
        due("hour(0)", x.hour(0), -2);
        x.road(2, 3);
        x.head(0, 0);
        due("hour: the first of like ones", x.hour(0), 0);
        x.cobble(2, 4);
        due("hour: none", x.hour(0), -1);
        x.wind(4, -1);
        due("hour: one step from 4, two from 3", x.hour(0), 4);
        x.head(0, 12);
        due("hour: fallen at once", x.hour(1), -1);
        due("hour(-1)", x.hour(-1), -2);
        refusals("hour", x, 2, 0, 0);
    }

    private static void promise18Sure() {
        SmallCrown x = new SmallCrown();
        due("sure: no head", x.sure(0, 0, 0), -2);
        x.road(6, 4);
        x.head(0, 0);
        due("sure by 0", x.sure(0, 0, 0), 2);
        due("sure by 2: two steps of 2 are held", x.sure(0, 0, 2), 2);
        due("sure by 3: a second one falls", x.sure(0, 0, 3), -1);
        x.head(1, 0);
        due("sure by 3: a stiff neck takes one back", x.sure(1, 0, 3), -1);
        due("sure by 1: a stiff neck", x.sure(1, 0, 1), 2);
        x.head(0, 4);
        due("sure: what falls is behind the bow", x.sure(2, 0, 1), -1);
        x.cobble(3, -4);
        due("sure: 4 - 4 and 2 twice is held", x.sure(2, 0, 2), 2);
        x.cobble(6, -1);
        due("sure: 4 - 4 - 2 - 1 - 2 is not", x.sure(2, 0, 2), -1);
        x.head(0, 5);
        due("sure: fallen at once", x.sure(3, 0, 0), -1);
        due("sure(0, 6, 0)", x.sure(0, 6, 0), -2);
        due("sure(0, -1, 0)", x.sure(0, -1, 0), -2);
        due("sure(0, 0, 4)", x.sure(0, 0, 4), -2);
        due("sure(0, 0, -1)", x.sure(0, 0, -1), -2);
        refusals("sure", x, 5, 0, 0);
        SmallCrown y = new SmallCrown();
        y.road(1, 1);
        y.head(0, 1);
        y.cobble(1, -4);
        y.wind(2, 2);
        due("sure: the bow alone may save no one", y.sure(0, 2, 0), 1);
        due("sure: from another step", y.sure(0, 1, 0), -1);
    }

    private static void promise19Flat() {
        SmallCrown x = new SmallCrown();
        due("flat: no head", x.flat(0, 0), -2);
        x.road(15, 3);
        x.head(0, 0);
        due("flat: none is needed", x.flat(0, 0), 0);
        x.cobble(15, 4);
        due("flat: the fountain", x.flat(0, 0), 1 << 15);
        for (int c = 1; c <= 15; c++) {
            x.cobble(c, 4);
        }
        due("flat: three do not do for 15", x.flat(0, 0), -1);
        x.road(9, 3);
        x.head(0, 0);
        for (int c = 1; c <= 9; c++) {
            x.cobble(c, 4);
        }
        due("flat: three for 9, each at 3", x.flat(0, 0), (1 << 3) + (1 << 6) + (1 << 9));
        x.road(8, 3);
        x.head(0, 0);
        for (int c = 1; c <= 8; c++) {
            x.cobble(c, -4);
        }
        due("flat: of like ones the least", x.flat(0, 0), (1 << 2) + (1 << 5) + (1 << 8));
        x.wind(1, 1);
        due("flat: by the wind of step 1", x.flat(0, 1), (1 << 2) + (1 << 5));
        x.head(0, 4);
        due("flat: fallen at once", x.flat(1, 0), -1);
        due("flat(0, 6)", x.flat(0, 6), -2);
        due("flat(0, -1)", x.flat(0, -1), -2);
        due("flat: the cobbles stay", x.cobble(5, 0), -4);
        refusals("flat", x, 3, 0, 0);
    }

    private static void promise20Note() {
        SmallCrown x = new SmallCrown();
        due("note: no head", x.note(0, 0, 0, 0), -2);
        x.head(0, 0);
        due("note(1, ..)", x.note(1, 0, 0, 0), -2);
        due("note(-1, ..)", x.note(-1, 0, 0, 0), -2);
        due("note, t 6", x.note(0, 6, 0, 0), -2);
        due("note, t -1", x.note(0, -1, 0, 0), -2);
        due("note, row 14", x.note(0, 0, 14, 0), -2);
        due("note, row -1", x.note(0, 0, -1, 0), -2);
        due("note, cell 9", x.note(0, 0, 0, 9), -2);
        due("note, cell -2", x.note(0, 0, 0, -2), -2);
        due("note 1", x.note(0, 5, 333333333, 8), 1);
        due("note 2", x.note(0, 0, 0, -1), 2);
        for (int i = 3; i <= 6; i++) {
            due("note " + i, x.note(0, 0, 1, 0), i);
        }
        due("note 7", x.note(0, 0, 1, 0), -4);
        due("note 7, bad first", x.note(0, 0, 1, 9), -2);
        due("notes", x.count(3), 6);
        refusals("note", x, 10, 0, 1);
    }

    private static void promise21Forget() {
        SmallCrown x = new SmallCrown();
        due("forget() of none", x.forget(), 0);
        x.head(0, 0);
        x.note(0, 0, 1, 1);
        x.note(0, 0, 1, 1);
        due("forget()", x.forget(), 2);
        due("forget: none", x.count(3), 0);
        due("forget: all kinds fit", x.is(0), 63);
        due("forget: the next is the first", x.note(0, 0, 1, 1), 1);
    }

    /** Lean 3 and cobble 3 at cell 3 fall short steps alone; a wind of 3 spares the bred. */
    private static void promise22Is() {
        SmallCrown x = new SmallCrown();
        due("is: no head", x.is(0), -2);
        x.road(6, 6);
        x.head(0, 3);
        x.head(1, 7);
        x.cobble(3, 3);
        due("is: no notes", x.is(0), 63);
        x.note(0, 0, 3, 3);
        due("is: short steps fall", x.is(0), 1 << 2 | 1 << 5);
        x.forget();
        x.note(0, 0, 3, -1);
        due("is: the others do not", x.is(0), 63 - (1 << 2 | 1 << 5));
        due("is: notes of another head", x.is(1), 63);
        x.note(1, 0, 3, 0);
        due("is: fallen at once in 0", x.is(1), 63);
        x.note(1, 0, 0, -1);
        due("is: fallen at once, so not", x.is(1), 0);
        x.forget();
        x.wind(2, 3);
        x.note(0, 2, 3, 3);
        due("is: by the wind of step 2", x.is(0), 63);
        x.cobble(3, 1);
        due("is: lean 7, 6, 8, 7, 6, 5", x.is(0), 1 << 0 | 1 << 2 | 1 << 3);
        x.forget();
        x.note(0, 2, 1, -1);
        due("is: lean 6, 5, 6, 6, 5, 3", x.is(0), 63);
        x.note(0, 2, 13, 4);
        due("is: none falls later", x.is(0), 0);
        due("is(2)", x.is(2), -2);
        due("is(-1)", x.is(-1), -2);
        refusals("is", x, 3, 0, 0);
    }

    private static void promise23Bowl() {
        SmallCrown x = new SmallCrown();
        due("bowl: no head", x.bowl(0), -2);
        x.road(6, 6);
        x.head(0, 3);
        due("bowl: all come through, the least", x.bowl(0), 1);
        x.cobble(3, 2);
        due("bowl: only by 3 the two short ones fall", x.bowl(0), 3);
        x.cobble(3, 4);
        due("bowl: by 1 and by 3 four fall at 3", x.bowl(0), 1);
        x.cobble(3, 0);
        x.cobble(4, 4);
        x.wind(3, -3);
        due("bowl: by 2 four fall at 4, by 1 the bred one", x.bowl(0), 2);
        x.note(0, 0, 22, -1);
        due("bowl: of stiff and nodder, the least", x.bowl(0), 1);
        x.note(0, 0, 0, 0);
        due("bowl: no kind", x.bowl(0), -1);
        due("bowl(-1)", x.bowl(-1), -2);
        due("bowl(1)", x.bowl(1), -2);
        x.head(0, 7);
        due("bowl: all fall at once", x.bowl(1), 1);
        x.road(3, 6);
        x.head(0, 3);
        x.cobble(3, 2);
        due("bowl: a fall in the fountain ends in its cell", x.bowl(0), 1);
        refusals("bowl", x, 3, 0, 0);
    }

    private static void promise24Bowed() {
        SmallCrown x = new SmallCrown();
        due("bowed: no head", x.bowed(0, 0, 0, 0, 0), -2);
        x.road(6, 2);
        x.head(0, 0);
        x.cobble(3, 2);
        due("bowed by 1 to 3 or ahead of it", x.bowed(0, 0, 123, 1, 3), 1 << 1 | 1 << 3);
        due("bowed by 3 in 1", x.bowed(0, 0, 123, 3, 1), 1 << 1);
        due("bowed by 3 in 3", x.bowed(0, 0, 123, 3, 3), 1 << 3);
        due("bowed by 3 in 6", x.bowed(0, 0, 123, 3, 6), 1 << 6);
        due("bowed by -3 in 3 holds", x.bowed(0, 0, 3, -3, 3), 0);
        due("bowed by nothing, no fall", x.bowed(0, 0, 123, 0, 3), 0);
        x.wind(4, 1);
        due("bowed by nothing, a fall", x.bowed(0, 4, 123, 0, 3), 1 << 1 | 1 << 3);
        due("bowed by nothing, a fall at another step", x.bowed(0, 5, 123, 0, 3), 0);
        due("bowed by -1 ahead or in it", x.bowed(0, 4, 123, -1, 3), 0);
        due("a row of none", x.bowed(0, 0, 0, 3, 0), 0);
        x.head(0, 3);
        due("fallen at once", x.bowed(1, 0, 1, 3, 0), 0);
        int[][] wrong = {{2, 0, 0, 0, 0}, {-1, 0, 0, 0, 0}, {0, 6, 0, 0, 0}, {0, -1, 0, 0, 0}, {0, 0, 5, 0, 0},
            {0, 0, -3, 0, 0}, {0, 0, 0, 4, 0}, {0, 0, 0, -4, 0}, {0, 0, 0, 0, 7}, {0, 0, 0, 0, -1}};
        for (int[] a : wrong) {
            due("bowed, wrong", x.bowed(a[0], a[1], a[2], a[3], a[4]), -2);
        }
        refusals("bowed", x, 1 + wrong.length, 0, 0);
    }

    private static void fraction(SmallCrown x, String call, int got, long above, long below) {
        due(call, got, 1);
        due(call + ": above", x.part(0), above);
        due(call + ": below", x.part(1), below);
    }

    private static void promise25Pigeons() {
        SmallCrown x = new SmallCrown();
        due("pigeons: no head", x.pigeons(0, 1, 0), -2);
        x.road(3, 2);
        x.head(0, 0);
        fraction(x, "pigeons, none sits", x.pigeons(0, 1, 0), 1, 1);
        fraction(x, "pigeons, all sit", x.pigeons(0, 1, 10), 0, 1);
        fraction(x, "pigeons, three of three by 5", x.pigeons(0, 1, 5), 7, 8);
        fraction(x, "pigeons, three of three by 1", x.pigeons(0, 1, 1), 999, 1000);
        fraction(x, "pigeons, one step", x.pigeons(0, 3, 7), 1, 1);
        x.head(0, 2);
        fraction(x, "pigeons, one step at the edge", x.pigeons(1, 3, 7), 3, 10);
        fraction(x, "pigeons, two steps at the edge", x.pigeons(1, 2, 7), 9, 100);
        x.head(0, 3);
        fraction(x, "pigeons, fallen at once", x.pigeons(2, 3, 0), 0, 1);
        x.head(0, -2);
        x.wind(0, -1);
        fraction(x, "pigeons, one saves him", x.pigeons(3, 3, 4), 2, 5);
        x.road(15, 12);
        x.head(0, 0);
        // All but 13, 14 or 15 of 15 sitting: 105 times 81, 15 times 9 and 1 are lost.
        fraction(x, "pigeons, long", x.pigeons(0, 1, 1), 999999999991359L, 1000000000000000L);
        due("pigeons(1, ..)", x.pigeons(1, 1, 0), -2);
        due("pigeons, pace 0", x.pigeons(0, 0, 0), -2);
        due("pigeons, pace 4", x.pigeons(0, 4, 0), -2);
        due("pigeons, c -1", x.pigeons(0, 1, -1), -2);
        due("pigeons, c 11", x.pigeons(0, 1, 11), -2);
        due("pigeons: refused, it stays", x.part(1), 1000000000000000L);
        refusals("pigeons", x, 6, 0, 0);
    }

    private static void promise26Crowned() {
        SmallCrown x = new SmallCrown();
        due("crowned: no head", x.crowned(0, 0, 0), -2);
        x.head(0, 0);
        due("crowned: none", x.crowned(0, 0, 0), 0);
        due("crowned: all", x.crowned(0, 999999, 60), 60);
        x.head(0, 6);
        due("crowned: fallen at once", x.crowned(1, 1, 60), 0);
        x.road(1, 4);
        x.head(2, 0);
        x.cobble(1, 4);
        int without3 = 0;
        long s = 7;
        for (int i = 1; i <= 60; i++) {
            s = (s * 1103515245L + 12345L) & 0x7fffffffL;
            without3 += (s >> 16) % 3 == 2 ? 0 : 1;
            due("crowned: short steps of 1 or 2, " + i, x.crowned(0, 7, i), without3);
        }
        due("crowned(1, ..)", x.crowned(1, 0, 0), -2);
        due("crowned, seed -1", x.crowned(0, -1, 0), -2);
        due("crowned, seed 1000000", x.crowned(0, 1000000, 0), -2);
        due("crowned, n -1", x.crowned(0, 0, -1), -2);
        due("crowned, n 61", x.crowned(0, 0, 61), -2);
        refusals("crowned", x, 6, 0, 0);
    }

    private static void promise27Part() {
        SmallCrown x = new SmallCrown();
        due("part(2)", x.part(2), -2);
        due("part(-1)", x.part(-1), -2);
        refusals("part", x, 2, 0, 0);
    }

    private static void promise28And29Images() {
        SmallCrown x = new SmallCrown();
        due("image(2)", x.image(2), -2);
        due("image(-1)", x.image(-1), -2);
        due("from(2)", x.from(2), -2);
        due("from(-1)", x.from(-1), -2);
        due("from(0): none was kept", x.from(0), -3);
        x.road(10, 7);
        x.head(0, 1);
        x.cobble(1, 2);
        x.wind(1, 3);
        x.walk(0);
        x.step(1);
        x.hand();
        x.note(0, 1, 2, 3);
        x.pigeons(0, 3, 0);
        long kept = x.digest();
        due("image(0)", x.image(0), 1);
        x.undo();
        x.undo();
        x.step(3);
        x.cobble(1, -2);
        x.wind(1, -3);
        x.head(5, 5);
        x.note(1, 1, 1, 1);
        due("image(1)", x.image(1), 1);
        x.road(3, 3);
        due("from(0)", x.from(0), 1);
        due("from(0): all is back", x.digest(), kept);
        due("from(0): a hand to undo", x.undo(), 1);
        due("from(0): its lean", x.now(3), 3);
        due("from(0): a step to undo", x.undo(), 0);
        due("from(0): no more", x.undo(), -3);
        due("from(0) again", x.from(0), 1);
        due("from(0) again: all is back", x.digest(), kept);
        x.type(33);
        x.head(0, 0);
        x.pigeons(0, 3, 5);
        due("from(1)", x.from(1), 1);
        due("from(1): heads", x.count(0), 2);
        due("from(1): cobble", x.cobble(1, 0), -2);
        due("from(1): wind", x.wind(1, 0), -3);
        due("from(1): notes", x.count(3), 2);
        due("from(1): cell", x.now(1), 3);
        due("from: the text stays", x.count(5), 1);
        due("image(0) anew", x.image(0), 1);
        x.road(2, 2);
        due("from(0) anew", x.from(0), 1);
        due("from(0) anew: heads", x.count(0), 2);
        refusals("images", x, 4, 2, 0);
        SmallCrown y = new SmallCrown();
        y.image(0);
        y.road(1, 1);
        y.head(0, 1);
        y.pigeons(0, 1, 5);
        y.from(0);
        due("from: the fraction stays", y.part(1), 2);
    }

    private static void promise30Status() {
        SmallCrown x = new SmallCrown();
        refusals("status at first", x, 0, 0, 0);
        due("status(3)", x.status(3), -1);
        due("status(-1)", x.status(-1), -1);
        due("status(MIN)", x.status(Integer.MIN_VALUE), -1);
        x.hand();
        x.undo();
        for (int i = 0; i < 6; i++) {
            x.head(0, 0);
        }
        x.soonest(0, 0, 99);
        x.cobble(1, 4);
        x.read();
        refusals("status", x, 3, 2, 1);
    }

    private static void promise31Count() {
        SmallCrown x = new SmallCrown();
        x.road(14, 11);
        x.head(0, 0);
        x.head(0, 0);
        x.note(0, 0, 0, 0);
        x.walk(0);
        x.step(1);
        x.step(1);
        x.hand();
        type(x, "abcd");
        int[] counts = {2, 14, 11, 1, 3, 4};
        for (int i = 0; i < counts.length; i++) {
            due("count(" + i + ")", x.count(i), counts[i]);
        }
        due("count(6)", x.count(6), -2);
        due("count(-1)", x.count(-1), -2);
        refusals("count", x, 2, 0, 0);
    }

    private static long mixed(long[] values) {
        long h = 1087;
        for (long v : values) {
            h = 31 * h + v;
        }
        return h;
    }

    private static void promise32Digest() {
        SmallCrown x = new SmallCrown();
        due("digest() at first", x.digest(), mixed(new long[] {
            0, 8, 5, 0, 0, 0, 0, 0, 0, 0, 0, 0, 0, 0, 0, 0, 0, 0, 0, 0, 0, -1, 0, 0, 0, 0, 0, 1}));
        x.road(2, 4);
        x.cobble(0, -1);
        x.cobble(1, -2);
        x.cobble(2, 3);
        for (int i = 0; i < 6; i++) {
            x.wind(i, i - 2);
        }
        x.head(2, -4);
        x.head(5, 1);
        x.pigeons(1, 2, 3);
        x.walk(1);
        x.step(3);
        x.note(1, 5, 321, -1);
        x.note(0, 0, 0, 2);
        x.type(7);
        due("digest()", x.digest(), mixed(new long[] {
            2, 2, 4, 2, 1, 1, -1, -2, 3, -2, -1, 0, 1, 2, 3, 2, -4, 5, 1,
            1, 2, 1, 7, 1, 1, 5, 321, -1, 0, 0, 0, 2, 7, 10}));
        due("digest() again", x.digest(), x.digest());
        refusals("digest", x, 0, 0, 0);
    }
}
