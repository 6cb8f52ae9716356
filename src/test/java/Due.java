/** Counts the answers that are not the ones due, and tells them. */
final class Due {
    private static final int MOST_TOLD = 40;
    private int checks = 0;
    private int wrong = 0;

    void is(String call, long got, long want) {
        checks++;
        if (got != want) {
            wrong++;
            if (wrong <= MOST_TOLD) {
                System.out.println(call + " answered " + got + ", due is " + want);
            }
        }
    }

    void holds(String what, boolean so) {
        is(what, so ? 1 : 0, 1);
    }

    void end() {
        System.out.println(checks + " answers looked at, " + wrong + " not as due");
        if (wrong != 0) {
            System.exit(1);
        }
    }
}
