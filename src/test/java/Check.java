/** Compares answers with what is due, prints what is not, and ends with exit code 1 if there was one. */
final class Check {
    private final String name;
    private int looked = 0;
    private int wrong = 0;

    Check(String name) {
        this.name = name;
    }

    void due(String call, long got, long want) {
        looked++;
        if (got == want) return;
        wrong++;
        System.out.println(name + ": " + call + " answered " + got + ", due is " + want);
    }

    void yes(String call, boolean got) {
        due(call, got ? 1 : 0, 1);
    }

    void no(String call, boolean got) {
        due(call, got ? 1 : 0, 0);
    }

    /** A call that is refused must leave all as it was. */
    void same(String call, String got, String want) {
        looked++;
        if (got.equals(want)) return;
        wrong++;
        System.out.println(name + ": " + call + " left " + got + ", due is " + want);
    }

    boolean isWrong() {
        return wrong > 0;
    }

    void end() {
        System.out.println(name + ": " + looked + " answers, " + wrong + " not as due");
        if (wrong > 0) System.exit(1);
    }
}
