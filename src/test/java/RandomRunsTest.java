import java.util.Random;

/** Runs of random calls, each answered alike by the class and by the reference. */
public final class RandomRunsTest {
    private static final int RUNS = 700;
    private static final int CALLS = 512;
    private static final String[] PIECES = {
        "cobble ", "hole ", "wind ", "lull ", "head ", "bent ", "road ", ";", " ", "  ", "0", "1", "2",
        "3", "4", "5", "12", "13", "15", "16", "08", "003", "123", "x", "heads", "-", "A", "\t", "\0", "\177", "{", "`", "/", ":"
    };
    private static final String[] WORDS = {"cobble", "hole", "wind", "lull", "head", "bent"};

    private final Due due;
    private final Random random;
    private final String name;
    private SmallCrown x = new SmallCrown();
    private Reference r = new Reference();
    private int calls = 0;
    private int flats = 0;

    private RandomRunsTest(Due due, long seed) {
        this.due = due;
        this.random = new Random(seed);
        this.name = "run " + seed + ": ";
    }

    public static void main(String[] args) {
        Due due = new Due();
        for (int seed = 1; seed <= RUNS; seed++) {
            new RandomRunsTest(due, seed).run();
        }
        due.end();
    }

    private void run() {
        if (random.nextBoolean()) {
            due("road", x.road(8, 5) - r.road(8, 5), 0);
            tellText();
        }
        while (calls < CALLS) {
            call(random.nextInt(40));
        }
        due("digest()", x.digest(), r.digest());
        for (int i = 0; i <= 2; i++) {
            due("status(" + i + ")", x.status(i), r.status(i));
        }
    }

    private void due(String call, long got, long want) {
        calls++;
        due.is(name + call, got, want);
    }

    /** Mostly from least to most, at times one beyond, seldom far beyond. */
    private int number(int least, int most) {
        int luck = random.nextInt(60);
        if (luck == 0) {
            return least - 1;
        }
        if (luck == 1) {
            return most + 1;
        }
        if (luck == 2) {
            int[] far = {Integer.MIN_VALUE, Integer.MAX_VALUE, -1, 0, 1 << 16, random.nextInt()};
            return far[random.nextInt(far.length)];
        }
        return least + random.nextInt(most - least + 1);
    }

    private int head() {
        return random.nextInt(80) == 0 ? number(-1, 5) : random.nextInt(Math.max(1, x.count(0)));
    }

    private int row() {
        if (random.nextInt(40) == 0) {
            int[] odd = {4, 10, 101, 333333334, 1111111111, -1, -11, Integer.MAX_VALUE, Integer.MIN_VALUE, 120, 333333333};
            return odd[random.nextInt(odd.length)];
        }
        int row = 0;
        for (int i = random.nextInt(10); i > 0; i--) {
            row = row * 10 + 1 + random.nextInt(3);
        }
        return row;
    }

    private void call(int which) {
        if (which < 14) {
            build(which);
        } else if (which < 25) {
            goOn(which);
        } else {
            ask(which);
        }
    }

    private void build(int which) {
        switch (which) {
            case 0: {
                if (random.nextInt(4) == 0) {
                    int length = number(1, 15);
                    int hold = number(1, 12);
                    due("road", x.road(length, hold), r.road(length, hold));
                }
                break;
            }
            case 1: case 2: case 3: case 4: {
                int c = number(0, x.count(1));
                int n = number(-4, 4);
                due("cobble(" + c + ", " + n + ")", x.cobble(c, n), r.cobble(c, n));
                break;
            }
            case 5: case 6: {
                int i = number(0, 5);
                int n = number(-3, 3);
                due("wind(" + i + ", " + n + ")", x.wind(i, n), r.wind(i, n));
                break;
            }
            case 7: case 8: {
                int kind = number(0, 5);
                int set = number(-12, 12) / (random.nextBoolean() ? 3 : 1);
                due("head(" + kind + ", " + set + ")", x.head(kind, set), r.head(kind, set));
                break;
            }
            case 9: {
                if (random.nextInt(6) == 0) {
                    tellText();
                }
                break;
            }
            case 10: due("read()", x.read(), r.read()); break;
            case 11: {
                int c = number(0, 127);
                due("type(" + c + ")", x.type(c), r.type(c));
                break;
            }
            case 12: {
                int i = number(0, 1);
                due("image(" + i + ")", x.image(i), r.image(i));
                break;
            }
            default: {
                int i = number(0, 1);
                due("from(" + i + ")", x.from(i), r.from(i));
                break;
            }
        }
    }

    private void goOn(int which) {
        switch (which) {
            case 14: {
                int head = head();
                due("walk(" + head + ")", x.walk(head), r.walk(head));
                break;
            }
            case 15: case 16: case 17: case 18: {
                int pace = number(1, 3);
                due("step(" + pace + ")", x.step(pace), r.step(pace));
                break;
            }
            case 19: case 20: due("hand()", x.hand(), r.hand()); break;
            case 21: due("undo()", x.undo(), r.undo()); break;
            case 22: {
                int head = head();
                int what = number(0, 1);
                due("of(" + head + ", " + what + ")", x.of(head, what), r.of(head, what));
                break;
            }
            case 23: {
                int what = number(0, 4);
                due("now(" + what + ")", x.now(what), r.now(what));
                break;
            }
            default: {
                int what = number(0, 5);
                due("count(" + what + ")", x.count(what), r.count(what));
                due("status(" + what + ")", x.status(what), r.status(what));
                due("part(" + what + ")", x.part(what), r.part(what));
                due("digest()", x.digest(), r.digest());
                break;
            }
        }
    }

    private void ask(int which) {
        int head = head();
        int t = number(0, 5);
        int row = row();
        switch (which) {
            case 25: case 26: {
                int what = number(0, 3);
                due("paces(" + head + ", " + t + ", " + row + ", " + what + ")",
                        x.paces(head, t, row, what), r.paces(head, t, row, what));
                break;
            }
            case 27: case 28: {
                int i = number(-1, 6);
                due("soonest(" + head + ", " + t + ", " + i + ")", x.soonest(head, t, i), r.soonest(head, t, i));
                break;
            }
            case 29: due("hour(" + head + ")", x.hour(head), r.hour(head)); break;
            case 30: case 31: {
                int b = number(0, 3);
                due("sure(" + head + ", " + t + ", " + b + ")", x.sure(head, t, b), r.sure(head, t, b));
                break;
            }
            case 32: {
                if (flats++ < 6) {
                    due("flat(" + head + ", " + t + ")", x.flat(head, t), r.flat(head, t));
                }
                break;
            }
            default: askWhereItFell(which, head, t, row);
        }
    }

    private void askWhereItFell(int which, int head, int t, int row) {
        switch (which) {
            case 33: {
                int cell = random.nextBoolean() ? fellIn(head, t, row) : number(-1, x.count(1));
                due("note(" + head + ", " + t + ", " + row + ", " + cell + ")",
                        x.note(head, t, row, cell), r.note(head, t, row, cell));
                break;
            }
            case 34: {
                if (random.nextInt(4) == 0) {
                    due("forget()", x.forget(), r.forget());
                }
                break;
            }
            case 35: due("is(" + head + ")", x.is(head), r.is(head)); break;
            case 36: due("bowl(" + head + ")", x.bowl(head), r.bowl(head)); break;
            case 37: {
                int b = number(-3, 3);
                int cell = number(0, x.count(1));
                due("bowed(" + head + ", " + t + ", " + row + ", " + b + ", " + cell + ")",
                        x.bowed(head, t, row, b, cell), r.bowed(head, t, row, b, cell));
                break;
            }
            case 38: {
                int pace = number(1, 3);
                int c = number(0, 10);
                due("pigeons(" + head + ", " + pace + ", " + c + ")", x.pigeons(head, pace, c), r.pigeons(head, pace, c));
                due("part(0)", x.part(0), r.part(0));
                due("part(1)", x.part(1), r.part(1));
                break;
            }
            default: {
                int seed = number(0, 999999);
                int n = number(0, 60);
                due("crowned(" + head + ", " + seed + ", " + n + ")", x.crowned(head, seed, n), r.crowned(head, seed, n));
                break;
            }
        }
    }

    /** A cell that makes the note true of the head as it is. */
    private int fellIn(int head, int t, int row) {
        int fallen = r.paces(head, t, row, 3);
        int cell = r.paces(head, t, row, 0);
        x.paces(head, t, row, 3);
        x.paces(head, t, row, 0);
        return fallen == 1 ? cell : -1;
    }

    private void tellText() {
        due("clear()", x.clear(), r.clear());
        String text = spoilt(randomText());
        for (int i = 0; i < text.length(); i++) {
            due("type(" + (int) text.charAt(i) + ")", x.type(text.charAt(i)), r.type(text.charAt(i)));
        }
        due("read() of [" + text + "]", x.read(), r.read());
        due("digest()", x.digest(), r.digest());
    }

    private String randomText() {
        int length = 1 + random.nextInt(15);
        StringBuilder text = new StringBuilder();
        text.append("road ").append(length).append(' ').append(1 + random.nextInt(12)).append(';');
        for (int items = random.nextInt(13); items > 0; items--) {
            String word = WORDS[random.nextInt(WORDS.length)];
            int firstMost = word.length() == 6 || word.equals("hole") ? length : 5;
            int secondMost = firstMost == length ? 4 : word.equals("head") || word.equals("bent") ? 12 : 3;
            text.append(word).append(' ').append(random.nextInt(firstMost + 1)).append(' ')
                    .append(random.nextInt(secondMost + 1)).append(random.nextBoolean() ? ";" : " ; ");
        }
        return text.toString();
    }

    private String spoilt(String text) {
        if (random.nextBoolean()) {
            return text;
        }
        StringBuilder spoilt = new StringBuilder(text);
        int place = random.nextInt(spoilt.length() + 1);
        switch (random.nextInt(4)) {
            case 0: spoilt.setLength(place); break;
            case 1: spoilt.insert(place, PIECES[random.nextInt(PIECES.length)]); break;
            case 2: spoilt.delete(place, Math.min(spoilt.length(), place + 1 + random.nextInt(3))); break;
            default: spoilt.append(PIECES[random.nextInt(PIECES.length)]); break;
        }
        return spoilt.toString();
    }
}
