/** Counts the answers that are not as due. */
final class Check {
    private static final int MOST_PRINTED = 40;
    private long asked;
    private long wrong;

    void due(String call, long got, long want) {
        asked++;
        if (got != want) {
            wrong++;
            if (wrong <= MOST_PRINTED) {
                System.out.println(call + " answered " + got + ", due is " + want);
            }
        }
    }

    void due(String call, boolean got, boolean want) {
        due(call, got ? 1L : 0L, want ? 1L : 0L);
    }

    void due(String call, String got, String want) {
        due(call + " (\"" + got + "\", due is \"" + want + "\")", got.equals(want) ? 1L : 0L, 1L);
    }

    long asked() {
        return asked;
    }

    boolean isWrong() {
        return wrong != 0;
    }

    void end(String name) {
        System.out.println(name + ": " + asked + " answers, " + wrong + " not as due");
        if (wrong != 0 || asked == 0) {
            System.exit(1);
        }
    }
}
