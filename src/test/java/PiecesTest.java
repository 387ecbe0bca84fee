/** Promises 9 to 11, 15 to 20, 50, 51: pieces shared, grafted, filled, moved; streams, the stage, exchanges. */
public final class PiecesTest {
    private static final Check check = new Check("PiecesTest");

    private static Tape two(int size) {
        Tape x = new Tape();
        x.make(size, 512);
        x.make(size, 512);
        return x;
    }

    /** Promise 9. */
    private static void share() {
        Tape x = two(100);
        x.write(0, 10, 1);
        x.write(0, 12, 2);
        x.write(1, 21, 3);
        x.write(1, 22, 4);
        String ahead = Look.at(x);
        int[][] wrong = {{0, 0, 0, 50, 5}, {0, 96, 1, 0, 5}, {0, 0, 1, 96, 5}, {0, 0, 1, 0, 0}, {0, 0, 1, 0, 65},
            {0, -1, 1, 0, 5}, {0, 0, 1, -1, 5}, {2, 0, 1, 0, 5}, {0, 0, 2, 0, 5}, {-1, 0, 1, 0, 5}, {0, 0, 12, 0, 5},
            {0, Integer.MAX_VALUE, 1, 0, 5}, {0, 0, 1, 0, Integer.MAX_VALUE}, {0, 0, 1, 0, -1}};
        for (int[] w : wrong) check.no("share " + w[0] + " " + w[1] + " " + w[2] + " " + w[3] + " " + w[4], x.share(w[0], w[1], w[2], w[3], w[4]));
        check.same("wrong shares", Look.at(x), ahead);
        check.yes("share", x.share(0, 10, 1, 20, 3));
        check.due("the same BLOCK", x.block(1, 20), 0);
        check.due("WIPED, as nothing is there", x.block(1, 21), -1);
        check.due("another BLOCK instead", x.block(1, 22), 1);
        check.due("COUNT", x.ofBlock(0, 1), 2);
        check.due("BLOCKS", x.is(1), 2);
        check.due("what was there is free", x.find(4), -1);
        check.yes("one alone", x.share(0, 9, 1, 19, 1));
        check.due("the one behind it stays", x.block(1, 20), 0);
        check.yes("one alone", x.share(0, 12, 1, 22, 1));
        check.due("the one ahead stays", x.block(1, 20), 0);
        check.yes("n and no more", x.write(0, 13, 8) && x.share(0, 11, 1, 40, 2));
        check.due("the last of them", x.block(1, 41), 1);
        check.due("none behind them", x.block(1, 42), -1);
        x.undo();
        x.undo();
        check.yes("once more", x.share(0, 10, 1, 20, 3));
        check.due("COUNT stays", x.ofBlock(0, 1), 2);
        check.yes("to the ends", x.share(0, 36, 1, 36, 64));
        x.take(1, true);
        check.no("to one that is READ ONLY", x.share(0, 0, 2, 0, 5));
        check.yes("of one that is READ ONLY", x.share(2, 20, 0, 60, 1));
        check.due("COUNT", x.ofBlock(0, 1), 3);
        x.quota(1, 2);
        check.no("past the QUOTA", x.share(0, 10, 1, 30, 1));
        check.yes("the QUOTA is looked at in the end", x.share(0, 10, 1, 19, 4));
        check.due("USED", x.of(1, 3), 2);
        check.due("wrong", x.wrong(), -1);
    }

    /** Promise 10. */
    private static void graft() {
        Tape x = two(100);
        x.fill(0, 8, 3, 5);
        x.write(0, 70, 6);
        String ahead = Look.at(x);
        int[][] wrong = {{0, 8, 1, 0, 0, 1}, {0, 8, 3, 1, 0, 3}, {0, 8, -1, 1, 0, -1}, {0, 8, 1, 1, 0, 0}, {0, 8, 0, 1, 0, 1},
            {0, 8, 2, 1, 0, 1}, {0, 11, 0, 1, 0, 0}, {0, 0, 1, 1, 0, 1}, {1, 0, 2, 0, 0, 2}, {0, 100, 1, 1, 0, 1},
            {0, 8, 1, 1, 100, 1}, {0, -1, 1, 1, 0, 1}, {0, 8, 1, 1, -1, 1}, {2, 8, 1, 1, 0, 1}, {0, 8, 1, 2, 0, 1}};
        for (int[] w : wrong) {
            check.no("graft " + w[0] + " " + w[1] + " " + w[2] + " " + w[3] + " " + w[4] + " " + w[5],
                x.graft(w[0], w[1], w[2], w[3], w[4], w[5]));
        }
        check.same("wrong grafts", Look.at(x), ahead);
        check.yes("a BLOCK", x.graft(0, 9, 0, 1, 50, 0));
        check.due("is there", x.block(1, 50), 1);
        check.yes("a LEAF", x.graft(0, 8, 1, 1, 3, 1));
        check.due("for the ADDRESS's place", x.read(1, 0), 5);
        check.due("all of it", x.of(1, 3), 4);
        check.due("the same LEAF", x.path(1, 0, 2), x.path(0, 8, 2));
        check.due("COUNT of the LEAF", x.ofPart(x.path(0, 8, 2), 1), 2);
        check.due("COUNT of the BLOCK", x.ofBlock(0, 1), 1);
        check.yes("the LEAF in two places", x.graft(0, 10, 1, 1, 16, 1));
        check.due("is one PART", x.parts(1, 0), 2);
        check.due("USED", x.of(1, 3), 7);
        check.yes("a write splits it", x.write(1, 16, 9));
        check.due("READ there", x.read(1, 0), 5);
        check.yes("a TWIG", x.graft(0, 64, 2, 1, 0, 2));
        check.due("what was there is gone", x.of(1, 3), 1);
        check.due("READ", x.read(1, 6), 6);
        check.yes("a TWIG within SIZE", x.graft(0, 64, 2, 1, 99, 2));
        check.due("READ", x.read(1, 70), 6);
        check.due("wrong", x.wrong(), -1);
    }

    /** A graft that would map something from SIZE on, pass the QUOTA, or is done to one that is READ ONLY. */
    private static void graftCannot() {
        Tape x = two(100);
        x.write(0, 7, 1);
        x.write(0, 40, 2);
        x.size(1, 36);
        String ahead = Look.at(x);
        check.no("a TWIG past SIZE", x.graft(0, 0, 2, 1, 0, 2));
        check.no("a LEAF past SIZE", x.graft(0, 7, 1, 1, 35, 1));
        check.same("nothing is done", Look.at(x), ahead);
        check.yes("just below it", x.size(1, 40) && x.graft(0, 7, 1, 1, 35, 1));
        x.quota(1, 1);
        check.no("past the QUOTA", x.graft(0, 7, 0, 1, 1, 0));
        x.take(1, true);
        check.no("READ ONLY", x.graft(0, 7, 0, 2, 39, 0));
        check.yes("of one that is READ ONLY", x.graft(2, 39, 0, 0, 0, 0));
        Tape y = two(512);
        y.write(0, 0, 1);
        y.take(0, false);
        check.yes("what is there already", y.graft(0, 0, 1, 2, 0, 1));
        check.due("TRUNK and TWIG are split", y.is(2), 5);
        check.due("the LEAF is not", y.path(2, 0, 2), 2);
        check.due("wrong", y.wrong(), -1);
    }

    /** Promise 11. */
    private static void fill() {
        Tape x = two(100);
        String ahead = Look.at(x);
        int[][] wrong = {{0, 0, 0, 1}, {0, 0, 65, 1}, {0, 37, 64, 1}, {0, -1, 5, 1}, {0, 100, 1, 1}, {2, 0, 1, 1},
            {-1, 0, 1, 1}, {0, 0, 1, -1}, {0, 0, 1, 1000000}, {0, Integer.MAX_VALUE, 5, 1}, {0, 5, Integer.MAX_VALUE, 1}};
        for (int[] w : wrong) check.no("fill " + w[0] + " " + w[1] + " " + w[2] + " " + w[3], x.fill(w[0], w[1], w[2], w[3]));
        check.same("wrong fills", Look.at(x), ahead);
        check.yes("to the end", x.fill(0, 36, 64, 4));
        check.due("BLOCKS", x.is(1), 64);
        check.due("rising", x.block(0, 99), 63);
        check.due("times", x.times(0, 4), 64);
        ahead = Look.at(x);
        check.no("33 more are not free", x.fill(1, 0, 33, 4));
        check.same("nothing is done", Look.at(x), ahead);
        check.yes("32 are", x.fill(1, 0, 32, 4));
        x.like(1);
        check.yes("LIKE 1: none is needed", x.fill(1, 0, 64, 4));
        check.due("one BLOCK", x.block(1, 63), 0);
        check.due("32 are free", x.is(1), 64);
        x.quota(1, 64);
        check.no("past the QUOTA", x.fill(1, 60, 5, 4));
        x.take(1, true);
        check.no("READ ONLY", x.fill(2, 0, 5, 4));
    }

    /** Promises 15, 16, 51. */
    private static void stream() {
        Tape x = two(100);
        check.due("none at first", x.is(10), 0);
        check.due("stream(0, 0)", x.stream(0, 0), -2);
        check.yes("none is TAKEN IN", x.receive(0));
        check.due("that is a STEP", x.steps(), 3);
        x.write(0, 3, 30);
        x.write(0, 90, 31);
        x.take(0, false);
        x.write(2, 3, 32);
        x.wipe(2, 90);
        x.write(2, 50, 0);
        int[][] wrong = {{0, 3}, {3, 0}, {-1, 0}, {0, 12}};
        int steps = x.steps();
        for (int[] w : wrong) check.due("send " + w[0] + " " + w[1], x.send(w[0], w[1]), -1);
        check.due("send", x.send(0, 2), 3);
        int[][] rows = {{3, 32}, {50, 0}, {90, -1}};
        for (int i = 0; i < 3; i++) {
            check.due("row " + i, x.stream(i, 0), rows[i][0]);
            check.due("row " + i, x.stream(i, 1), rows[i][1]);
        }
        check.due("stream(3, 0)", x.stream(3, 0), -2);
        check.due("stream(-1, 0)", x.stream(-1, 0), -2);
        check.due("stream(0, 2)", x.stream(0, 2), -2);
        check.due("stream(0, -1)", x.stream(0, -1), -2);
        check.due("is(10)", x.is(10), 3);
        check.due("SENT is no STEP", x.steps(), steps);
        check.yes("TAKEN IN", x.receive(0));
        check.due("alike then", x.changed(0, 2, -1), 0);
        check.due("rows stay", x.is(10), 3);
        check.yes("TAKEN IN by another one, where 90 is not MAPPED", x.receive(1));
        check.due("USED", x.of(1, 3), 2);
        x.size(1, 90);
        check.no("ADDRESS 90 is from SIZE on", x.receive(1));
        x.size(1, 50);
        String ahead = Look.at(x);
        x.wipe(1, 3);
        check.no("ADDRESS 50, too", x.receive(1));
        check.due("nothing is done", x.read(1, 3), 0);
        x.undo();
        check.same("undo leaves", Look.at(x), ahead);
        check.due("THE STREAM stays", x.is(10), 3);
        x.take(0, true);
        check.no("READ ONLY", x.receive(3));
        check.no("none such", x.receive(4));
        check.no("none such", x.receive(-1));
        check.due("back", x.back(), 0);
        check.due("THE STREAM stays", x.stream(2, 1), -1);
        x.make(512, 1);
        check.no("past the QUOTA", x.receive(0));
        check.yes("with room", x.quota(0, 2) && x.receive(0));
        check.due("like ones differ nowhere", x.send(0, 0), 0);
    }

    /** Promises 19, 20, 50. */
    private static void stage() {
        Tape x = two(100);
        check.due("none at first", x.staged(0, 0), -2);
        int[][] wrong = {{-1, 0}, {512, 0}, {0, -2}, {0, 1000000}, {Integer.MAX_VALUE, 0}};
        for (int[] w : wrong) check.due("stage " + w[0] + " " + w[1], x.stage(w[0], w[1]), -1);
        check.due("1", x.stage(5, 50), 1);
        check.due("2", x.stage(6, 0), 2);
        check.due("3: the same ADDRESS", x.stage(5, -1), 3);
        check.due("4", x.stage(99, 999999), 4);
        check.due("no STEPS", x.steps(), 2);
        check.due("staged", x.staged(3, 0), 99);
        check.due("staged", x.staged(3, 1), 999999);
        check.due("none", x.staged(2, 1), -1);
        check.due("staged(4)", x.staged(4, 0), -2);
        check.due("staged(-1)", x.staged(-1, 0), -2);
        check.due("what 2", x.staged(0, 2), -2);
        check.due("what -1", x.staged(0, -1), -2);
        check.due("is(11)", x.is(11), 4);
        check.no("none such", x.commit(2));
        check.no("none such", x.commit(-1));
        check.yes("DONE", x.commit(0));
        check.due("row by row", x.block(0, 5), -1);
        check.due("USED", x.of(0, 3), 2);
        check.due("THE STAGE has none", x.is(11), 0);
        check.due("undo", x.undo(), 2);
        check.due("THE STAGE has none yet", x.is(11), 0);
        check.due("USED", x.of(0, 3), 0);
        for (int i = 1; i <= 16; i++) check.due("row " + i, x.stage(100 * (i % 2), i), i);
        check.due("a 17th", x.stage(0, 0), -1);
        check.no("from SIZE on", x.commit(0));
        check.due("it stays", x.is(11), 16);
        check.due("nothing is done", x.of(0, 3), 0);
        x.take(0, true);
        check.no("READ ONLY", x.commit(2));
        x.size(1, 101);
        x.quota(1, 1);
        check.no("past the QUOTA", x.commit(1));
        x.quota(1, 2);
        check.yes("DONE", x.commit(1));
        check.due("the latest of an ADDRESS", x.read(1, 100), 15);
        check.due("the latest of an ADDRESS", x.read(1, 0), 16);
        check.yes("none is DONE, too", x.commit(1));
        x.stage(0, -1);
        x.image();
        x.stage(1, 1);
        x.back();
        check.due("BACK leaves THE STAGE", x.is(11), 2);
    }

    /** Promise 17. */
    private static void move() {
        Tape x = two(100);
        x.write(0, 10, 1);
        x.write(0, 12, 2);
        x.write(0, 51, 3);
        String ahead = Look.at(x);
        int[][] wrong = {{0, 10, 12, 3}, {0, 12, 10, 3}, {0, 10, 10, 1}, {0, 98, 0, 3}, {0, 0, 98, 3}, {0, 0, 50, 0},
            {0, 0, 64, 65}, {0, -1, 50, 3}, {0, 10, -1, 3}, {2, 10, 50, 3}, {-1, 10, 50, 3}, {0, Integer.MAX_VALUE, 0, 1}};
        for (int[] w : wrong) check.no("move " + w[0] + " " + w[1] + " " + w[2] + " " + w[3], x.move(w[0], w[1], w[2], w[3]));
        check.same("wrong moves", Look.at(x), ahead);
        check.yes("move", x.move(0, 10, 50, 3));
        check.due("BLOCK 0", x.block(0, 50), 0);
        check.due("nothing is MAPPED there: WIPED", x.block(0, 51), -1);
        check.due("BLOCK 1", x.block(0, 52), 1);
        check.due("nothing stays", x.next(0, 0), 50);
        check.due("COUNT", x.ofBlock(0, 1), 1);
        check.due("BLOCKS", x.is(1), 2);
        check.yes("beside one another", x.move(0, 50, 53, 3));
        check.yes("and down", x.move(0, 53, 50, 3));
        check.due("READ", x.read(0, 50), 1);
        x.quota(0, 2);
        check.yes("the QUOTA is looked at in the end", x.move(0, 50, 0, 3));
        x.take(0, true);
        check.no("READ ONLY", x.move(2, 0, 50, 3));
        check.yes("to the end", x.move(0, 0, 97, 3));
        check.due("of the taken one", x.read(2, 0), 1);
        check.due("wrong", x.wrong(), -1);
    }

    /** Each address is moved before the next: its leaf is let go before the next one's is made. */
    private static void moveOneByOne() {
        Tape x = two(512);
        x.like(1);
        for (int a = 0; a < 512; a += 8) x.write(0, a, 1);
        for (int a = 0; a < 512; a += 8) x.write(1, a, 1);
        x.make(512, 512);
        for (int a : new int[] {7, 8, 71, 72, 127, 128, 192, 200}) x.write(2, a, 1);
        check.due("PARTS", x.is(2), 159);
        check.yes("one PART is free", x.move(2, 7, 31, 2));
        check.due("PARTS then", x.is(2), 159);
        check.due("the LEAF that was let go is used again", x.path(2, 32, 2), x.path(2, 31, 2) == 159 ? 148 : -9);
        check.due("wrong", x.wrong(), -1);
    }

    /** Nothing is done if a piece needs more parts than are free. */
    private static void noParts() {
        Tape x = two(512);
        x.like(1);
        for (int a = 0; a < 512; a += 8) x.write(0, a, 1);
        for (int a = 0; a < 512; a += 8) x.write(1, a, 1);
        x.make(512, 512);
        for (int a : new int[] {8, 16, 24, 32, 40, 64, 72, 80}) x.write(2, a, 1);
        x.make(512, 512);
        x.send(3, 1);
        check.due("PARTS", x.is(2), 157);
        String ahead = Look.at(x);
        check.no("share", x.share(0, 0, 3, 0, 9));
        check.no("graft, for whose LEAF none is free", x.write(3, 0, 1) && x.graft(0, 64, 0, 3, 64, 0));
        x.undo();
        check.no("receive", x.receive(3));
        x.stage(0, 1);
        x.stage(8, 1);
        check.no("commit", x.commit(3));
        check.due("THE STAGE stays", x.is(11), 2);
        check.no("fill", x.fill(3, 0, 9, 1));
        check.same("nothing is done", Look.at(x), ahead);
        check.yes("move", x.move(2, 8, 100, 64));
        x.undo();
        x.write(3, 0, 1);
        ahead = Look.at(x);
        check.no("move to where a TWIG is needed", x.move(2, 8, 128, 1));
        check.no("graft of a LEAF", x.graft(0, 64, 1, 3, 64, 1));
        check.yes("where there is one", x.graft(0, 64, 1, 3, 8, 1));
        x.undo();
        check.same("nothing is done", Look.at(x), ahead);
    }

    /** Promise 18. */
    private static void swap() {
        Tape x = new Tape();
        x.make(100, 2);
        x.make(50, 5);
        x.write(0, 99, 1);
        x.fill(1, 0, 2, 2);
        int[][] wrong = {{0, 0}, {0, 2}, {2, 0}, {-1, 0}, {0, 12}};
        for (int[] w : wrong) check.no("swap " + w[0] + " " + w[1], x.swap(w[0], w[1]));
        check.yes("swap", x.swap(0, 1));
        check.due("SIZE", x.of(0, 0), 50);
        check.due("SIZE", x.of(1, 0), 100);
        check.due("QUOTA stays", x.of(0, 1), 2);
        check.due("READ", x.read(1, 99), 1);
        check.due("READ", x.read(0, 1), 2);
        check.yes("back again", x.swap(1, 0));
        x.write(1, 5, 3);
        check.no("past a QUOTA", x.swap(0, 1));
        check.due("nothing is done", x.of(0, 0), 100);
        x.take(0, true);
        check.no("READ ONLY", x.swap(1, 2));
        check.no("READ ONLY", x.swap(2, 1));
        x.make(10, 10);
        check.yes("with an empty one", x.swap(3, 0));
        check.due("no TRUNK", x.of(0, 4), -1);
        check.due("wrong", x.wrong(), -1);
    }

    public static void main(String[] args) {
        share();
        graft();
        graftCannot();
        fill();
        stream();
        stage();
        move();
        moveOneByOne();
        noParts();
        swap();
        check.end();
    }
}
