/**
 * A run of calls that an edge is looked at behind. An object is good for 512 calls, so each look
 * makes it anew, as often as it needs.
 */
final class Scene {
    interface Made {
        void on(ThinVolumes x);
    }

    interface Asked {
        int on(ThinVolumes x);
    }

    interface Tried {
        boolean on(ThinVolumes x);
    }

    private static final int PARTS_A_LOOK = 40;

    private final Edges edges;
    private final Made made;
    private final String ahead;

    Scene(Edges edges, Made made) {
        this.edges = edges;
        this.made = made;
        ahead = views(made);
    }

    ThinVolumes anew() {
        return anew(made);
    }

    private static ThinVolumes anew(Made made) {
        ThinVolumes x = new ThinVolumes();
        made.on(x);
        return x;
    }

    // ---- calls that are refused: all stays as it was ----

    void no(String call, Tried tried) {
        edges.no(call, tried.on(anew()));
        stays(call, tried::on);
    }

    void none(String call, Asked asked) {
        gives(call, asked, ThinVolumes.NONE);
    }

    // ---- calls that only tell: all stays as it was, too ----

    void gives(String call, Asked asked, int want) {
        edges.due(call, asked.on(anew()), want);
        stays(call, asked::on);
    }

    private void stays(String call, Made deed) {
        edges.same(call + " leaves all as it was", views(x -> {
            made.on(x);
            deed.on(x);
        }), ahead);
    }

    // ---- calls that are done: one STEP, that can be taken back ----

    ThinVolumes yes(String call, Tried tried) {
        ThinVolumes x = anew();
        edges.yes(call, tried.on(x));
        isStep(call, tried::on);
        return x;
    }

    ThinVolumes does(String call, Asked asked, int want) {
        ThinVolumes x = anew();
        edges.due(call, asked.on(x), want);
        isStep(call, asked::on);
        return x;
    }

    private void isStep(String call, Made deed) {
        ThinVolumes x = anew();
        int steps = x.steps();
        deed.on(x);
        edges.due(call + ", then steps()", x.steps(), Math.min(steps + 1, 16));
        edges.due(call + ", then undo()", x.undo(), Math.min(steps, 15));
        edges.same(call + ", then undo()", state(y -> {
            made.on(y);
            deed.on(y);
            y.undo();
        }), state(made));
    }

    /** All that can be seen but THE STREAM and THE STAGE, as one text. */
    String look() {
        return state(made);
    }

    // ---- looks ----

    /** All that can be seen: now, with a STEP taken back, with all STEPS taken back, and with the image. */
    private static String views(Made made) {
        StringBuilder all = new StringBuilder();
        all.append(state(made)).append(rows(made)).append("\nSTEPS ").append(anew(made).steps());
        all.append("\na STEP taken back").append(state(x -> {
            made.on(x);
            x.undo();
        }));
        all.append("\nall STEPS taken back").append(state(x -> {
            made.on(x);
            for (int i = 0; i < 16; i++) x.undo();
        }));
        all.append("\nBACK").append(state(x -> {
            made.on(x);
            x.back();
        }));
        return all.toString();
    }

    static String state(Made made) {
        StringBuilder all = new StringBuilder();
        volumes(anew(made), all);
        blocks(anew(made), all);
        parts(made, all);
        return all.toString();
    }

    private static void volumes(ThinVolumes x, StringBuilder all) {
        all.append("\nis");
        for (int what = 0; what <= 9; what++) all.append(' ').append(x.is(what));
        all.append(" wrong ").append(x.wrong());
        for (int volume = 0; volume < 12; volume++) {
            all.append("\nVOLUME ").append(volume).append(':');
            for (int what = 0; what <= 11; what++) all.append(' ').append(x.of(volume, what));
        }
    }

    private static void blocks(ThinVolumes x, StringBuilder all) {
        for (int block = 0; block < 96; block++) {
            int value = x.ofBlock(block, 0);
            if (value == ThinVolumes.NONE) continue;
            all.append("\nBLOCK ").append(block).append(": ").append(value);
            all.append(' ').append(x.ofBlock(block, 1)).append(' ').append(x.ofBlock(block, 2));
        }
    }

    private static void parts(Made made, StringBuilder all) {
        ThinVolumes x = anew(made);
        int[] used = new int[160];
        int n = 0;
        for (int part = 0; part < 160; part++) {
            if (x.ofPart(part, 0) != ThinVolumes.NONE) used[n++] = part;
        }
        for (int i = 0; i < n; i++) {
            if (i % PARTS_A_LOOK == 0) x = anew(made);
            all.append("\nPART ").append(used[i]).append(": ").append(x.ofPart(used[i], 0));
            all.append(' ').append(x.ofPart(used[i], 1)).append(" of");
            for (int place = 0; place < 8; place++) all.append(' ').append(x.place(used[i], place));
        }
    }

    private static String rows(Made made) {
        ThinVolumes x = anew(made);
        StringBuilder all = new StringBuilder("\nTHE STAGE ").append(x.is(11)).append(':');
        for (int i = 0; i < 16; i++) all.append(' ').append(x.staged(i, 0)).append('=').append(x.staged(i, 1));
        int n = x.is(10);
        all.append("\nTHE STREAM ").append(n).append(':');
        for (int i = 0; i < n; i++) {
            if (i % 100 == 0) x = anew(made);
            all.append(' ').append(x.stream(i, 0)).append('=').append(x.stream(i, 1));
        }
        return all.toString();
    }
}
