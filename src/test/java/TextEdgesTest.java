/** The edges that the document names of a road told by a text: promise 8. */
public final class TextEdgesTest {
    private static final Sentences S = new Sentences();
    private static final String ROAD = "road 8 5;";
    private static final String FIVE_HEADS = "road 8 5;head 0 0;bent 1 1;head 2 2;bent 3 3;head 4 4;";

    private TextEdgesTest() {
    }

    public static void main(String[] args) {
        howMany();
        words();
        figures();
        blanks();
        roads();
        cobbles();
        winds();
        heads();
        faultsOfWords();
        faultsOfHeads();
        faultsOfNumbers();
        faultsOfBytes();
        endsTooEarly();
        theFirstFault();
        takesThePlaceOfAll();
        allStays();
        S.end();
    }

    private static void reads(String text, int items) {
        S.due("read of [" + text + "]", Sentences.read(text), items);
    }

    private static void fault(String text, int place) {
        S.due("read of [" + text + "]", Sentences.read(text), -10 - place);
    }

    private static SmallCrown told(String text) {
        SmallCrown x = Sentences.type(new SmallCrown(), text);
        x.read();
        return x;
    }

    private static void howMany() {
        S.says("THE WORLD is read: how many ITEMS.");
        reads("road 1 1;", 1);
        reads("road 8 5;wind 0 0;", 2);
        reads("road8 5;" + "wind0 0;".repeat(17), 18);
        S.says("a TEXT (150 bytes at most)");
        reads(" ".repeat(141) + ROAD, 1);
        reads(ROAD + " ".repeat(131) + "wind 0 1 ;", 2);
        fault(" ".repeat(149) + ";", 149);
        S.says("a TEXT (150 bytes at most): the 151st is not of it");
        reads(ROAD + " ".repeat(141) + ";", 1);
        fault(" ".repeat(142) + ROAD, 150);
    }

    private static void words() {
        S.says("TOKENS: words of letters a .. z");
        reads("road 8 5;cobble 1 1;hole 1 1;wind 1 1;lull 1 1;head 1 1;bent 1 1;", 7);
        fault("Road 8 5;", 0);
        fault("roaD 8 5;", 0);
        fault("roadA 8 5;", 4);
        fault("roadZ 8 5;", 4);
        fault("road` 8 5;", 4);
        fault("road{ 8 5;", 4);
        fault("road@ 8 5;", 4);
        fault("road[ 8 5;", 4);
        fault("zoad 8 5;", 0);
        fault("roadz 8 5;", 0);
        fault("aroad 8 5;", 0);
        fault("roadaroad 8 5;", 0);
        fault("ro ad 8 5;", 0);
    }

    private static void figures() {
        S.says("figures (1 or 2 are one number)");
        reads("road 08 05;", 1);
        reads("road 15 12;cobble 15 04;wind 05 03;head 05 12;", 4);
        S.due("count(1) of [road 08 05;]", told("road 08 05;").count(1), 8);
        S.due("count(1) of [road 15 12;]", told("road 15 12;").count(1), 15);
        S.due("count(2) of [road 15 12;]", told("road 15 12;").count(2), 12);
        S.due("count(2) of [road 15 10;]", told("road 15 10;").count(2), 10);
        reads("road 9 9;cobble 09 00;", 2);
        fault("road 1 5 1;", 9);
        fault("road 15;", 7);
        fault("road /8 5;", 5);
        fault("road :8 5;", 5);
        fault("road 8/5;", 6);
        fault("road 8:5;", 6);
    }

    private static void blanks() {
        S.says("; ; blanks (32) between");
        reads("   road   8   5   ;   wind   1   1   ;   ", 2);
        reads("road 8 5;wind 1 1;", 2);
        reads("road8 5;wind1 1;", 2);
        fault("road\t8 5;", 4);
        fault("road 8\n5;", 6);
        fault("road 8 5;\r", 9);
        fault("road\0008 5;", 4);
        fault("road!8 5;", 4);
        fault("\037road 8 5;", 0);
    }

    private static void roads() {
        S.says("road L HOLD: L 1 .. 15");
        reads("road 1 5;", 1);
        reads("road 15 5;", 1);
        fault("road 0 5;", 5);
        fault("road 00 5;", 5);
        fault("road 16 5;", 5);
        fault("road 99 5;", 5);
        S.says("road L HOLD: HOLD 1 .. 12");
        reads("road 8 1;", 1);
        reads("road 8 12;", 1);
        fault("road 8 0;", 7);
        fault("road 8 13;", 7);
        S.says("(once, first of all)");
        fault("road 8 5;road 8 5;", 9);
        fault("road 8 5;wind 0 0;road 8 5;", 18);
        fault("wind 0 0;road 8 5;", 0);
        fault("head 0 0;", 0);
    }

    private static void cobbles() {
        S.says("cobble c n, hole c n (n 0 .. 4: a COBBLE of n, of n less than nothing)");
        SmallCrown x = told("road 9 5;cobble 0 4;hole 9 4;cobble 1 0;hole 2 0;cobble 3 1;hole 3 2;hole 4 1;cobble 4 3;");
        int[] cobbles = {4, 0, 0, -2, 3, 0, 0, 0, 0, -4};
        for (int c = 0; c < cobbles.length; c++) {
            S.due(cobbles[c], x, "cobble", c, 0);
        }
        fault("road 8 5;cobble 1 5;", 18);
        fault("road 8 5;hole 1 5;", 16);
        fault("road 8 5;cobble 1 10;", 18);
        S.says("also a CELL beyond THE FOUNTAIN");
        for (int length = 1; length <= 15; length++) {
            reads("road " + length + " 5;cobble " + length + " 1;hole " + length + " 1;", 3);
            String road = "road " + length + " 5;";
            fault(road + "cobble " + (length + 1) + " 1;", road.length() + 7);
            fault(road + "hole " + (length + 1) + " 1;", road.length() + 5);
        }
        fault("road 15 5;cobble 99 1;", 17);
    }

    private static void winds() {
        S.says("wind i n, lull i n (0 .. 3; likewise)");
        SmallCrown x = told("road 8 5;wind 0 3;lull 5 3;wind 1 0;lull 2 0;lull 3 1;wind 3 2;wind 4 1;lull 4 2;");
        int[] winds = {3, 0, 0, 2, -2, -3};
        for (int i = 0; i < winds.length; i++) {
            S.due(winds[i], x, "wind", i, 0);
        }
        fault("road 8 5;wind 1 4;", 16);
        fault("road 8 5;lull 1 4;", 16);
        S.says("WINDS 0 .. 5, in a TEXT");
        fault("road 8 5;wind 6 0;", 14);
        fault("road 8 5;lull 6 0;", 14);
    }

    private static void heads() {
        S.says("head KIND n, bent KIND n (0 .. 12; a SET of n, of n less than nothing)");
        SmallCrown x = told("road 8 5;head 0 12;bent 5 12;head 1 0;bent 2 0;bent 3 1;");
        int[][] heads = {{0, 12}, {5, -12}, {1, 0}, {2, 0}, {3, -1}};
        S.due(5, x, "count", 0);
        for (int i = 0; i < heads.length; i++) {
            S.due(heads[i][0], x, "of", i, 0);
            S.due(heads[i][1], x, "of", i, 1);
        }
        fault("road 8 5;head 0 13;", 16);
        fault("road 8 5;bent 0 13;", 16);
        S.says("KINDS 0 .. 5, in a TEXT");
        fault("road 8 5;head 6 0;", 14);
        fault("road 8 5;bent 6 0;", 14);
    }

    private static void faultsOfWords() {
        S.says("FAULT: a word that is none");
        for (String none : new String[] {"a", "z", "cobbl", "cobbles", "hol", "holes", "win", "winds", "lul", "lulls",
            "hea", "heads", "ben", "bents", "xobble", "coxble", "cobblx", "hold", "wand", "full", "bend", "roads"}) {
            fault(ROAD + none + " 0 0;", 9);
        }
        S.says("FAULT: road again");
        fault("road 8 5; road 8 5;", 10);
        fault("road 8 5;road", 9);
        S.says("FAULT: anything ahead of it");
        fault(" cobble 1 1;road 8 5;", 1);
        fault(";road 8 5;", 0);
        fault("  8 road 8 5;", 2);
        fault("~road 8 5;", 0);
        fault("word 8 5;road 8 5;", 0);
        S.says("FAULT: a word, where none can stand");
        fault("road road 8 5;", 5);
        fault("road 8 wind 0 0;", 7);
        fault("road 8 5 wind 0 0;", 9);
        fault("road 8 5;wind 0 head 0 0;", 16);
    }

    private static void faultsOfHeads() {
        S.says("FAULT: a 6th HEAD at its word");
        reads(FIVE_HEADS, 6);
        int length = FIVE_HEADS.length();
        fault(FIVE_HEADS + "head 0 0;", length);
        fault(FIVE_HEADS + " bent 0 0;", length + 1);
        fault(FIVE_HEADS + "head", length);
        fault(FIVE_HEADS + "head 9 99;", length);
        fault(FIVE_HEADS + "wind 0 0;bent 0 0;", length + 9);
        reads(FIVE_HEADS + "wind 0 0;", 7);
        S.says("a 6th HEAD: those that were do not count");
        SmallCrown x = Sentences.full();
        x.clear();
        S.due("read of five", Sentences.type(x, FIVE_HEADS).read(), 6);
    }

    private static void faultsOfNumbers() {
        S.says("FAULT: a third figure's number");
        fault("road 008 5;", 5);
        fault("road 123 5;", 5);
        fault("road 8 005;", 7);
        fault("road 8 5;cobble 001 1;", 16);
        fault("road 8 5;wind 0 000;", 16);
        fault("road 8 5;head 000 0;", 14);
        fault("road 0000000000 5;", 5);
        fault("road 4294967297 5;", 5);
        S.says("FAULT: a number not as told");
        fault("road -1 5;", 5);
        fault("road ;", 5);
        fault("road 8;", 6);
        fault("road x 5;", 5);
        fault("road 8 5;wind;", 13);
        fault("road 8 5;wind 0;", 15);
        fault("road 8 5;wind 0 -1;", 16);
        S.says("FAULT: a number, where none can stand");
        fault("road 8 5 5;", 9);
        fault("road 8 5;5;", 9);
        fault("road 8 5;wind 0 0 0;", 18);
        S.says("ITEMS, each ended by ;");
        fault("road 8 5;;", 9);
        fault("road 8 5;wind 0 0;;", 18);
    }

    private static void faultsOfBytes() {
        S.says("FAULT: a byte that begins none, too");
        for (int c = 0; c <= 127; c++) {
            boolean begins = c == ' ' || c == ';' || c >= '0' && c <= '9' || c >= 'a' && c <= 'z';
            SmallCrown x = Sentences.type(new SmallCrown(), "road 8 5;wind 0 0 ");
            x.type(c);
            if (!begins) {
                S.due("read with byte " + c + " for ;", x.read(), -28);
                S.due("read with byte " + c + " first", Sentences.read((char) c + ROAD), -10);
                S.due("read with byte " + c + " last", Sentences.read(ROAD + (char) c), -19);
            } else {
                S.due("read with byte " + c + " for ;", x.read(), c == ';' ? 2 : c == ' ' ? -29 : -28);
            }
        }
    }

    private static void endsTooEarly() {
        S.says("the TEXT's length, if it ends too early");
        String text = "road 15 12;head 0 12 ;";
        // A cut within a word leaves a word that is none, at its own place.
        int[] due = {-10, -10, -10, -10, -14, -15, -16, -17, -18, -19, -20, 1,
            -21, -21, -21, -25, -26, -27, -28, -29, -30, -31, 2};
        for (int i = 0; i <= text.length(); i++) {
            reads(text.substring(0, i), due[i]);
        }
        fault("road 8 5;wind 0 0     ", 22);
        fault("road 8 5" + " ".repeat(142), 150);
        S.says("the TEXT's length, if it ends too early, whatever was typed ahead of clear");
        String[][] texts = {{"road 8 5;    ", "road 8"}, {"road 8 59;", "road 8 5"}, {"road 8 5;head 0 0;", "road 8 5"},
            {"road 8 5;head 0 0;", "road 8 5;head"}, {"road 8 5;head 0 0;", "road 8 5;head 0 "}, {"roads", "road"}};
        for (String[] pair : texts) {
            SmallCrown x = Sentences.type(new SmallCrown(), pair[0]);
            x.clear();
            S.due("read of [" + pair[1] + "]", Sentences.type(x, pair[1]).read(), -10 - pair[1].length());
        }
        S.says("(an empty one, too)");
        fault("", 0);
        fault(" ", 1);
        fault("     ", 5);
        S.changesNothing(Sentences::bare, -10, "read");
    }

    private static void theFirstFault() {
        S.says("the place of the first byte of the first TOKEN that can not stand there");
        fault("road 99 99;x", 5);
        fault("road 8 99", 7);
        fault("road 8 5;wind 9 9;wind 9 9;", 14);
        fault("road 8 5;    winds 0 0;", 13);
        fault("road 8 5;wind    77 0;", 17);
        fault("road 8 5;~ ;", 9);
        fault("road 8 5;cobble 9 9", 16);
    }

    private static void takesThePlaceOfAll() {
        SmallCrown x = Sentences.busy();
        long above = x.part(0);
        x.hand();
        x.walk(7);
        S.says("A WORLD that is read takes the place of all");
        S.due(2, x, "read");
        S.due(1, x, "count", 0);
        S.due(9, x, "count", 1);
        S.due(4, x, "count", 2);
        S.due(2, x, "of", 0, 0);
        S.due(1, x, "of", 0, 1);
        for (int c = 0; c <= 9; c++) {
            S.due(0, x, "cobble", c, 1);
        }
        for (int i = 0; i <= 5; i++) {
            S.due(0, x, "wind", i, 1);
        }
        S.says("(no WALK, NOTES none; nothing to undo)");
        S.due(-1, x, "now", 0);
        for (int what = 1; what <= 4; what++) {
            S.due(0, x, "now", what);
        }
        S.due(0, x, "count", 3);
        S.due(0, x, "count", 4);
        S.due(-3, x, "undo");
        S.says("all but IMAGES, THE TEXT, THE FRACTION, STATUS");
        S.due(18, x, "count", 5);
        S.due(above, x, "part", 0);
        S.due(1, x, "status", 0);
        S.due(1, x, "from", 0);
        S.due(2, x, "count", 0);
        S.due(2, x, "now", 1);
        S.due(2, x, "read");
        S.due(0, x, "cobble", 9, 0);
    }

    private static SmallCrown atFault() {
        SmallCrown x = Sentences.busy();
        x.clear();
        return Sentences.type(x, "road 3 3;cobble 1 1;wind 1 1;head 1 1;head 6 0;");
    }

    private static void allStays() {
        S.says("-10 less the FAULT: all stays.");
        S.changesNothing(TextEdgesTest::atFault, -10 - 43, "read");
        SmallCrown x = Sentences.full();
        x.clear();
        Sentences.type(x, " ".repeat(150));
        long before = x.digest();
        S.due(-160, x, "read");
        S.due("digest()", x.digest(), before);
    }
}
