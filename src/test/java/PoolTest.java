/** Promises 21, 22, 24 to 28, 37, 61 to 63: folding, spoiling, mending, laying close, steps, the image. */
public final class PoolTest {
    private static final Check check = new Check("PoolTest");

    /** Promise 21. */
    private static void merge() {
        Tape x = new Tape();
        check.due("nothing to merge", x.merge(), 0);
        check.due("is a STEP", x.steps(), 1);
        x.make(100, 100);
        for (int a : new int[] {0, 1, 2, 40, 41}) x.write(0, a, a % 2);
        x.write(0, 50, 9);
        x.take(0, true);
        check.due("three of six are free by it", x.merge(), 3);
        int[] blocks = {0, 1, 0, 0, 1};
        int[] at = {0, 1, 2, 40, 41};
        for (int i = 0; i < 5; i++) check.due("block at " + at[i], x.block(0, at[i]), blocks[i]);
        check.due("in shared LEAVES, too", x.block(1, 40), 0);
        check.due("COUNT", x.ofBlock(0, 1), 3);
        check.due("another VALUE stays", x.block(0, 50), 5);
        check.due("wrong", x.wrong(), -1);
        check.due("again", x.merge(), 0);
        x.spoil(0, 9);
        check.due("with a WRONG COUNT", x.merge(), -1);
    }

    /** Promise 22. */
    private static void fold() {
        Tape x = new Tape();
        check.due("nothing to fold", x.fold(), 0);
        check.due("is a STEP", x.steps(), 1);
        x.make(512, 512);
        x.like(1);
        for (int a : new int[] {0, 64, 72, 80}) x.write(0, a, 7);
        x.make(512, 512);
        for (int a : new int[] {0, 64, 72, 80}) x.write(1, a, 7);
        check.due("PARTS", x.is(2), 14);
        check.due("of 8 LEAVES 1, of 4 TWIGS 2, of 2 TRUNKS 1 stay", x.fold(), 10);
        check.due("the least LEAF", x.path(1, 80, 2), 2);
        check.due("its COUNT: in two TWIGS", x.ofPart(2, 1), 4);
        check.due("the least TRUNK", x.of(1, 4), 0);
        check.due("its COUNT", x.ofPart(0, 1), 2);
        check.due("the least TWIGS", x.path(1, 64, 1), x.path(0, 64, 1));
        check.due("BLOCKS' COUNT", x.ofBlock(0, 1), 1);
        check.due("USED", x.of(1, 3), 4);
        check.due("wrong", x.wrong(), -1);
        check.due("again", x.fold(), 0);
        x.spoil(0, 2);
        check.due("with a WRONG COUNT", x.fold(), -1);
    }

    /** A leaf and a twig are never like, nor leaves with the same in other places. */
    private static void foldUnlike() {
        Tape x = new Tape();
        x.make(512, 512);
        x.like(1);
        x.write(0, 0, 1);
        x.write(0, 9, 1);
        x.write(0, 64, 2);
        check.due("nothing is like", x.fold(), 0);
        x.like(0);
        x.write(0, 16, 1);
        check.due("like VALUES of other BLOCKS", x.fold(), 0);
        x.merge();
        check.due("once they are one BLOCK", x.fold(), 1);
        check.due("wrong", x.wrong(), -1);
    }

    /** Promise 24. */
    private static void like() {
        Tape x = new Tape();
        for (int like : new int[] {-1, 2, Integer.MAX_VALUE}) check.no("like " + like, x.like(like));
        check.due("at first", x.is(4), 0);
        check.yes("told as it is", x.like(0));
        check.due("is a STEP", x.steps(), 1);
        check.yes("1", x.like(1));
        check.due("is(4)", x.is(4), 1);
        x.make(9, 9);
        x.fill(0, 0, 9, 3);
        check.due("kept once", x.is(1), 1);
        Tape y = new Tape();
        y.make(9, 9);
        for (int a = 0; a < 3; a++) y.write(0, a, a);
        y.wipe(0, 1);
        y.wipe(0, 2);
        y.like(1);
        y.write(0, 5, 2);
        check.due("a free one isn't like", y.block(0, 5), 1);
        check.yes("0", x.like(0));
        x.fill(0, 0, 9, 3);
        check.due("then each has its own but the last, whose BLOCK is alone then", x.is(1), 9);
    }

    /** Promises 25, 26, 37. */
    private static void spoil() {
        Tape x = new Tape();
        x.make(50, 50);
        x.fill(0, 0, 3, 4);
        int[][] wrong = {{3, 1}, {-1, 1}, {96, 1}, {0, 0}, {0, 1000}, {0, -1}};
        for (int[] w : wrong) check.no("spoil " + w[0] + " " + w[1], x.spoil(w[0], w[1]));
        check.yes("as it is", x.spoil(0, 1));
        check.due("none is WRONG", x.wrong(), -1);
        check.due("is a STEP", x.steps(), 3);
        check.yes("so all can be done yet", x.like(1));
        x.undo();
        check.yes("999", x.spoil(2, 999));
        check.no("now not", x.like(1));
        check.yes("told right again", x.spoil(2, 1));
        check.yes("now all can be", x.like(1));
        x.undo();
        x.undo();
        check.due("wrong", x.wrong(), 2);
        check.yes("while one is WRONG", x.spoil(1, 5));
        check.due("the first one", x.wrong(), 1);
        check.due("COUNT", x.ofBlock(2, 1), 999);
        check.due("places", x.ofBlock(2, 2), 1);
        check.due("COUNTS together", x.is(6), 1005);
        check.due("the greatest", x.is(7), 999);
        check.due("hottest", x.hottest(), 2);
        check.due("ALONE, as COUNTS are", x.of(0, 5), 1);
        check.due("mend", x.mend(), 2);
        check.due("wrong", x.wrong(), -1);
        check.due("COUNT", x.ofBlock(2, 1), 1);
        check.due("ALONE", x.of(0, 5), 3);
        check.due("mend nothing", x.mend(), 0);
        check.due("is a STEP, too", x.steps(), 7);
    }

    /** As long as one is WRONG, nothing else is done. */
    private static void whileWrong() {
        Tape x = new Tape();
        x.make(50, 50);
        x.make(50, 50);
        x.fill(0, 0, 3, 4);
        x.wipe(0, 0);
        x.send(1, 0);
        x.spoil(1, 7);
        int steps = x.steps();
        String ahead = Look.at(x);
        check.due("make", x.make(5, 5), -1);
        check.due("take", x.take(0, true), -1);
        check.no("write", x.write(0, 0, 1));
        check.no("wipe", x.wipe(0, 1));
        check.no("bring", x.bring(0, 1));
        check.no("size", x.size(0, 60));
        check.no("quota", x.quota(0, 60));
        check.no("share", x.share(0, 0, 1, 0, 5));
        check.no("graft", x.graft(0, 1, 0, 1, 0, 0));
        check.no("fill", x.fill(0, 0, 5, 5));
        check.no("reserve", x.reserve(0, 1));
        check.due("hold", x.hold(0, true), -1);
        check.due("prune", x.prune(0), -1);
        check.no("receive", x.receive(1));
        check.no("move", x.move(0, 1, 20, 1));
        check.no("swap", x.swap(0, 1));
        check.no("commit", x.commit(0));
        check.due("merge", x.merge(), -1);
        check.due("fold", x.fold(), -1);
        check.due("free", x.free(1), -1);
        check.no("like", x.like(1));
        check.due("close", x.close(), -1);
        check.due("needs", x.needs(0, 0, 1, 0), -1);
        check.same("all", Look.at(x), ahead);
        check.due("no STEPS", x.steps(), steps);
        check.due("stage goes", x.stage(3, 4), 1);
        check.due("send goes", x.send(0, 1), 2);
        check.due("image goes", x.image(), 2);
        check.due("undo goes", x.undo(), steps - 1);
        check.due("none is WRONG", x.wrong(), -1);
        check.due("back goes", x.back(), 2);
        check.due("it is WRONG again", x.wrong(), 1);
        check.no("nothing is done again", x.write(0, 0, 1));
        check.due("mend goes", x.mend(), 1);
        check.yes("commit goes then", x.commit(0));
    }

    /** ALONE, frees, heaviest by COUNTS that are too low or too high. */
    private static void spoiltCounts() {
        Tape x = new Tape();
        x.make(50, 50);
        x.like(1);
        x.fill(0, 0, 3, 4);
        x.make(50, 50);
        x.fill(1, 0, 2, 5);
        check.due("heaviest, like ones", x.heaviest(), 0);
        x.spoil(0, 1);
        check.due("too low: free but once", x.of(0, 5), 1);
        x.spoil(0, 4);
        check.due("too high", x.of(0, 5), 0);
        check.due("heaviest", x.heaviest(), 1);
        check.due("frees", x.frees(3), 1);
        check.due("counted(4)", x.counted(4), 1);
    }

    /** Promise 27. */
    private static void close() {
        Tape x = new Tape();
        check.due("nothing to do", x.close(), 0);
        check.due("is a STEP", x.steps(), 1);
        x.make(512, 512);
        x.write(0, 0, 10);
        x.write(0, 64, 11);
        x.write(0, 128, 12);
        x.write(0, 129, 13);
        x.take(0, true);
        x.wipe(0, 0);
        x.free(1);
        check.due("BLOCKS 1, 2, 3 and a PART above them", x.ofPart(7, 0), 2);
        String numbers = x.block(0, 64) + " " + x.block(0, 128) + " " + x.block(0, 129) + " " + x.of(0, 4);
        check.same("numbers", numbers, "1 2 3 7");
        check.due("close", x.close(), 3);
        numbers = x.block(0, 64) + " " + x.block(0, 128) + " " + x.block(0, 129) + " " + x.of(0, 4);
        check.same("numbers", numbers, "0 1 2 4");
        check.due("PARTS keep their order", x.path(0, 64, 1), 0);
        check.due("PARTS keep their order", x.path(0, 128, 2), 3);
        check.due("READ", x.read(0, 129), 13);
        check.due("PARTS", x.is(2), 5);
        check.due("wrong", x.wrong(), -1);
        check.due("again", x.close(), 0);
        x.spoil(0, 2);
        check.due("with a WRONG COUNT nothing is done", x.close(), -1);
    }

    /** Promises 28, 63. */
    private static void undo() {
        Tape x = new Tape();
        check.due("none", x.undo(), -1);
        x.make(100, 100);
        String first = Look.at(x);
        x.write(0, 0, 1);
        String second = Look.at(x);
        x.write(0, 0, 1000000);
        x.free(5);
        x.undo();
        check.same("a refused call is no STEP", Look.at(x), first);
        x.write(0, 0, 1);
        x.quota(0, 100);
        check.due("told as it is: a STEP", x.steps(), 3);
        check.due("undo", x.undo(), 2);
        check.same("undo", Look.at(x), second);
        for (int i = 0; i < 20; i++) x.write(0, i, i);
        check.due("the latest 16", x.steps(), 16);
        for (int i = 15; i >= 0; i--) {
            check.due("undo " + i, x.undo(), i);
            check.due("USED", x.of(0, 3), i + 4);
        }
        check.due("no more", x.undo(), -1);
        check.due("steps", x.steps(), 0);
        x.take(0, true);
        x.undo();
        check.due("MADE and TAKEN so far", x.is(8), 1);
        check.due("BORN", x.of(x.take(0, true), 9), 1);
    }

    /** Every kind of step is taken back whole. */
    private static void undoEach() {
        Tape x = new Tape();
        x.make(100, 100);
        x.fill(0, 0, 10, 3);
        x.make(100, 100);
        x.fill(1, 50, 10, 3);
        x.take(1, true);
        x.wipe(0, 4);
        x.send(0, 1);
        x.stage(4, 3);
        Runnable[] deeds = {
            () -> x.make(5, 5), () -> x.take(0, true), () -> x.write(0, 4, 4), () -> x.wipe(0, 5), () -> x.bring(0, 1),
            () -> x.size(0, 3), () -> x.quota(0, 90), () -> x.share(0, 0, 1, 0, 9), () -> x.graft(0, 0, 1, 1, 0, 1),
            () -> x.fill(0, 2, 8, 8), () -> x.reserve(0, 60), () -> x.hold(2, true), () -> x.prune(0),
            () -> x.receive(0), () -> x.move(0, 0, 40, 9), () -> x.swap(0, 1), () -> x.commit(0), () -> x.merge(),
            () -> x.fold(), () -> x.free(1), () -> x.like(1), () -> x.spoil(3, 3), () -> x.close(),
        };
        x.like(1);
        x.like(0);
        for (int i = 0; i < deeds.length; i++) {
            // Another state each time, so that one that was kept for an earlier deed shows.
            x.write(0, 9, 100 + i);
            String ahead = Look.at(x);
            int steps = x.steps();
            deeds[i].run();
            check.due("a STEP: " + i, x.steps(), Math.min(steps + 1, 16));
            check.no("changes something: " + i, i != 18 && Look.at(x).equals(ahead));
            check.due("undo " + i, x.undo(), Math.min(steps, 15));
            check.same("undo " + i, Look.at(x), ahead);
        }
        String ahead = Look.at(x);
        x.spoil(3, 3);
        String spoilt = Look.at(x);
        x.mend();
        check.same("mend", Look.at(x), ahead);
        x.undo();
        check.same("undo of mend", Look.at(x), spoilt);
        check.no("nothing is done again", x.like(1));
    }

    /** Numbers that were let go and used again for others are as they were. */
    private static void undoReuse() {
        Tape x = new Tape();
        x.make(100, 100);
        x.write(0, 0, 1);
        x.write(0, 64, 1);
        x.take(0, true);
        x.free(0);
        x.make(200, 100);
        x.take(0, false);
        String ahead = Look.at(x);
        x.free(1);
        x.free(2);
        check.due("VOLUME 1 again", x.make(5, 5), 1);
        check.due("not READ ONLY", x.of(1, 2), 0);
        check.due("VOLUME 2 again", x.make(512, 512), 2);
        check.due("no PARENT", x.of(2, 8), -1);
        x.write(2, 0, 3);
        x.write(2, 8, 3);
        check.due("what was a TWIG is a LEAF", x.ofPart(3, 0), 0);
        for (int i = 0; i < 6; i++) x.undo();
        check.same("undo", Look.at(x), ahead);
    }

    /** Promises 61, 62: an image holds all but the stream and the stage, the steps that can be taken back too. */
    private static void image() {
        Tape x = new Tape();
        check.due("image", x.image(), 0);
        x.make(100, 100);
        x.write(0, 0, 1);
        check.due("image", x.image(), 1);
        String ahead = Look.at(x);
        check.due("no STEP", x.steps(), 2);
        x.take(0, true);
        x.write(0, 0, 2);
        x.like(1);
        check.due("back", x.back(), 1);
        check.same("back", Look.at(x), ahead);
        check.due("STEPS as they were", x.steps(), 2);
        check.due("undo", x.undo(), 1);
        check.due("as ahead of it", x.of(0, 3), 0);
        check.due("undo", x.undo(), 0);
        check.due("it stays", x.back(), 1);
        check.same("back", Look.at(x), ahead);
        for (int i = 0; i < 20; i++) x.write(0, 5, i);
        x.image();
        check.due("16", x.steps(), 16);
        for (int i = 0; i < 20; i++) x.write(0, 6, i);
        x.back();
        check.due("nothing at 6", x.block(0, 6), -1);
        for (int i = 18; i >= 3; i--) {
            x.undo();
            check.due("STEPS of then", x.read(0, 5), i);
        }
        check.due("no more", x.undo(), -1);
        x.image();
        check.due("image of now", x.free(0) >= 0 ? x.back() : -9, 1);
        check.due("no STEPS", x.steps(), 0);
    }

    public static void main(String[] args) {
        merge();
        fold();
        foldUnlike();
        like();
        spoil();
        whileWrong();
        spoiltCounts();
        close();
        undo();
        undoEach();
        undoReuse();
        image();
        check.end();
    }
}
