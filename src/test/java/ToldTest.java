/** Promises 29 to 49, 52 to 60: what is told of the pool and of volumes. */
public final class ToldTest {
    private static final Check check = new Check("ToldTest");

    /**
     * Volume 0: BLOCKS 0, 1, 2 (VALUES 10, 11, 10) at 0, 1, 9, BLOCK 3 (VALUE 0) at 70.
     * Volume 1, taken from it, READ ONLY. Volume 2, taken from 1: BLOCK 4 (VALUE 12) at 0, nothing at 70.
     * Volume 3: empty.
     */
    private static Tape sample() {
        Tape x = new Tape();
        x.make(100, 100);
        x.write(0, 0, 10);
        x.write(0, 1, 11);
        x.write(0, 9, 10);
        x.write(0, 70, 0);
        x.take(0, true);
        x.take(1, false);
        x.write(2, 0, 12);
        x.wipe(2, 70);
        x.make(50, 7);
        return x;
    }

    /** Promise 29. */
    private static void is() {
        Tape x = sample();
        x.reserve(0, 6);
        x.reserve(2, 2);
        x.reserve(3, 9);
        x.send(0, 2);
        x.stage(1, 1);
        // PARTS: TRUNK, TWIG, two LEAVES, TWIG, LEAF; of volume 2 a TRUNK, a TWIG, a LEAF of its own.
        int[] want = {4, 5, 9, 11, 0, 4, 6, 2, 4, 11, 2, 1};
        for (int what = 0; what < 12; what++) check.due("is(" + what + ")", x.is(what), want[what]);
        for (int what : new int[] {-1, 12, Integer.MAX_VALUE}) check.due("is(" + what + ")", x.is(what), -1);
    }

    /** Promise 30. */
    private static void of() {
        Tape x = sample();
        x.reserve(2, 20);
        x.hold(1, true);
        int[][] want = {
            {100, 100, 0, 4, 0, 0, 0, 0, -1, 0, 0, 3},
            {100, 100, 1, 4, 0, 0, 0, 1, 0, 1, 1, 3},
            {100, 100, 0, 3, 6, 1, 20, 0, 1, 2, 2, 3},
            {50, 7, 0, 0, -1, 0, 0, 0, -1, 3, 0, 0}};
        for (int v = 0; v < 4; v++) {
            for (int what = 0; what < 12; what++) check.due("of(" + v + ", " + what + ")", x.of(v, what), want[v][what]);
            check.due("of(" + v + ", 12)", x.of(v, 12), -1);
            check.due("of(" + v + ", -1)", x.of(v, -1), -1);
        }
        for (int v : new int[] {-1, 4, 12}) check.due("of(" + v + ", 0)", x.of(v, 0), -1);
        x.free(0);
        check.due("ALONE of the last that has it", x.of(1, 5), 2);
        check.due("PARENT is gone", x.of(1, 8), -1);
        check.due("PARENTS above", x.of(2, 10), 1);
    }

    /** Promises 31, 32, 43, 55. */
    private static void addresses() {
        Tape x = sample();
        int[] at = {0, 1, 2, 9, 70, 99, 100, -1};
        int[] read = {12, 11, 0, 10, 0, 0, -1, -1};
        int[] block = {4, 1, -1, 2, -1, -1, -1, -1};
        int[] next = {0, 1, 9, 9, -1, -1, -1, -1};
        for (int i = 0; i < at.length; i++) {
            check.due("read(2, " + at[i] + ")", x.read(2, at[i]), read[i]);
            check.due("block(2, " + at[i] + ")", x.block(2, at[i]), block[i]);
            check.due("next(2, " + at[i] + ")", x.next(2, at[i]), next[i]);
        }
        check.due("a 0 that is MAPPED", x.block(1, 70), 3);
        check.due("next(0, 70)", x.next(0, 70), 70);
        x.size(3, 512);
        for (int a : new int[] {8, 128, 511}) x.write(3, a, 1);
        int[][] nexts = {{0, 8}, {8, 8}, {9, 128}, {64, 128}, {127, 128}, {129, 511}, {500, 511}, {511, 511}};
        for (int[] n : nexts) check.due("next(3, " + n[0] + ")", x.next(3, n[0]), n[1]);
        check.due("path trunk", x.path(2, 9, 0), 6);
        check.due("path twig", x.path(2, 9, 1), 7);
        check.due("path leaf", x.path(2, 9, 2), 3);
        check.due("path to where nothing is", x.path(2, 99, 0), 6);
        check.due("path to where nothing is", x.path(2, 99, 1), -1);
        check.due("path to where nothing is", x.path(2, 17, 2), -1);
        check.due("path where no TWIG is", x.path(3, 70, 1), -1);
        for (int i : new int[] {-1, 3}) check.due("path i " + i, x.path(2, 9, i), -1);
        check.due("path past SIZE", x.path(2, 100, 0), -1);
        for (int v : new int[] {-1, 4, 12}) {
            check.due("read of " + v, x.read(v, 0), -1);
            check.due("block of " + v, x.block(v, 0), -1);
            check.due("next of " + v, x.next(v, 0), -1);
            check.due("path of " + v, x.path(v, 0, 0), -1);
        }
    }

    /** Promises 33 to 36, 46 to 48. */
    private static void things() {
        Tape x = sample();
        int[][] blocks = {{10, 1, 1}, {11, 2, 2}, {10, 1, 1}, {0, 1, 1}, {12, 1, 1}};
        for (int b = 0; b < 5; b++) {
            for (int what = 0; what < 3; what++) check.due("ofBlock(" + b + ", " + what + ")", x.ofBlock(b, what), blocks[b][what]);
        }
        for (int b : new int[] {-1, 5, 96}) {
            check.due("ofBlock " + b, x.ofBlock(b, 0), -1);
            check.due("owners " + b, x.owners(b), -1);
            check.due("leaves " + b, x.leaves(b), -1);
        }
        for (int what : new int[] {-1, 3}) {
            check.due("ofBlock what " + what, x.ofBlock(0, what), -1);
            check.due("ofPart what " + what, x.ofPart(0, what), -1);
        }
        int[][] parts = {{2, 2, 2}, {1, 1, 2}, {0, 1, 2}, {0, 2, 1}, {1, 1, 1}, {0, 1, 1}, {2, 1, 1}, {1, 1, 2}, {0, 1, 2}};
        for (int p = 0; p < 9; p++) {
            for (int what = 0; what < 3; what++) check.due("ofPart(" + p + ", " + what + ")", x.ofPart(p, what), parts[p][what]);
        }
        for (int p : new int[] {-1, 9, 160}) {
            check.due("ofPart " + p, x.ofPart(p, 0), -1);
            check.due("place of " + p, x.place(p, 0), -1);
        }
        int[][] places = {{0, 0, 1}, {0, 1, 4}, {1, 1, 3}, {2, 1, 1}, {8, 0, 4}, {7, 1, 3}, {2, 2, -1}, {2, -1, -1}, {2, 8, -1}};
        for (int[] p : places) check.due("place " + p[0] + " " + p[1], x.place(p[0], p[1]), p[2]);
        x.write(2, 7, 5);
        check.due("the last place", x.place(8, 7), 5);
        check.due("none behind it", x.place(8, 8), -1);
        check.due("none behind it, though the next PART has one", x.place(1, 8), -1);
        check.due("none ahead of it, though the PART ahead has one", x.place(9, -1), -1);
        x.take(2, true);
        x.write(2, 70, 0);
        check.due("PART 9", x.ofPart(9, 0), 2);
        check.due("none ahead of it, though the PART ahead has one", x.place(9, -1), -1);
        for (int i = 0; i < 3; i++) x.undo();
        int[] owners = {2, 3, 3, 2, 1};
        int[] leaves = {1, 2, 1, 1, 1};
        for (int b = 0; b < 5; b++) {
            check.due("owners " + b, x.owners(b), owners[b]);
            check.due("leaves " + b, x.leaves(b), leaves[b]);
        }
        check.due("counted(1)", x.counted(1), 4);
        check.due("counted(2)", x.counted(2), 1);
        check.due("counted(500)", x.counted(500), 0);
        check.due("counted(0)", x.counted(0), -1);
        check.due("counted(-1)", x.counted(-1), -1);
        check.due("hottest", x.hottest(), 1);
        x.graft(0, 0, 0, 2, 3, 0);
        check.due("of like ones the least", x.hottest(), 0);
        x.graft(0, 0, 0, 2, 2, 0);
        check.due("hottest", x.hottest(), 0);
        check.due("of none", new Tape().hottest(), -1);
        check.due("a LEAF with it twice is one", x.leaves(0), 2);
        check.due("places", x.ofBlock(0, 2), 3);
        check.due("place of one that was never used", x.place(159, 0), -1);
        for (int v = 0; v < 4; v++) x.free(v);
        for (int p = 0; p < 10; p++) {
            for (int place = 0; place < 8; place++) check.due("place of one that is free", x.place(p, place), -1);
            for (int what = 0; what < 3; what++) check.due("ofPart of one that is free", x.ofPart(p, what), -1);
        }
    }

    /** Promises 38 to 40. */
    private static void differences() {
        Tape x = sample();
        check.due("differs", x.differs(0, 2, -1), 2);
        check.due("differs 0", x.differs(0, 2, 0), 0);
        check.due("differs 1", x.differs(2, 0, 1), 70);
        for (int i : new int[] {2, -2, 512}) {
            check.due("differs " + i, x.differs(0, 2, i), -1);
            check.due("changed " + i, x.changed(0, 2, i), -1);
        }
        check.due("walked: TRUNKS, TWIGS twice, LEAVES twice", x.walked(0, 2), 5);
        check.due("the same TRUNK", x.walked(0, 1), 0);
        check.due("no DIFFERENCE", x.differs(0, 1, -1), 0);
        check.due("a 0 that is MAPPED is READ as nothing is", x.changed(0, 2, -1), 1);
        check.due("changed 0", x.changed(0, 2, 0), 0);
        check.due("to an empty one", x.differs(0, 3, -1), 4);
        check.due("walked, all", x.walked(3, 0), 6);
        check.due("changed, all but the 0", x.changed(3, 0, -1), 3);
        check.due("changed, the last", x.changed(3, 0, 2), 9);
        check.due("itself", x.differs(2, 2, -1), 0);
        check.due("itself", x.walked(2, 2), 0);
        x.make(5, 5);
        check.due("two empty ones", x.walked(3, 4), 0);
        int[][] none = {{0, 5}, {5, 0}, {-1, 0}, {0, 12}};
        for (int[] n : none) {
            check.due("differs " + n[0] + " " + n[1], x.differs(n[0], n[1], -1), -1);
            check.due("walked " + n[0] + " " + n[1], x.walked(n[0], n[1]), -1);
            check.due("changed " + n[0] + " " + n[1], x.changed(n[0], n[1], -1), -1);
        }
        x.write(2, 70, 0);
        check.due("like VALUES in unlike BLOCKS differ", x.differs(0, 2, 1), 70);
        check.due("but are not CHANGED", x.changed(0, 2, -1), 1);
    }

    /** Promises 41, 42. */
    private static void weights() {
        Tape x = sample();
        int[][] want = {{0, 0}, {1, 0}, {2, 0}, {3, 2}, {4, 1}, {5, 1}, {7, 5}, {15, 5}, {8, 0}, {16, -1}, {-1, -1},
            {1 << 12, -1}, {Integer.MIN_VALUE, -1}, {Integer.MIN_VALUE | 1, -1}};
        for (int[] w : want) check.due("frees(" + w[0] + ")", x.frees(w[0]), w[1]);
        check.due("heaviest", x.heaviest(), 2);
        x.hold(2, true);
        check.due("HOLDS are not looked at", x.heaviest(), 2);
        check.due("HOLDS are not looked at", x.frees(4), 1);
        x.hold(2, false);
        x.free(0);
        check.due("heaviest then", x.heaviest(), 1);
        x.free(1);
        x.free(2);
        check.due("an empty one", x.heaviest(), 3);
        x.free(3);
        check.due("none", x.heaviest(), -1);
        check.due("frees(0)", x.frees(0), 0);
    }

    /** Promises 44, 45, 49. */
    private static void values() {
        Tape x = sample();
        check.due("find(10)", x.find(10), 0);
        check.due("find(12)", x.find(12), 1024);
        check.due("find(11): just behind another", x.find(11), 1);
        check.due("find(0): one that is MAPPED", x.find(0), 70);
        for (int value : new int[] {13, -1, 1000000}) check.due("find " + value, x.find(value), -1);
        check.due("times(0, 10)", x.times(0, 10), 2);
        check.due("times(2, 10)", x.times(2, 10), 1);
        check.due("times(0, 0): MAPPED alone", x.times(0, 0), 1);
        check.due("times(0, 13)", x.times(0, 13), 0);
        check.due("times(3, 0)", x.times(3, 0), 0);
        check.due("times(0, -1): MAPPED with none such", x.times(0, -1), 0);
        check.due("times(0, 1000000): MAPPED with none such", x.times(0, 1000000), 0);
        check.due("times(3, -1): nothing MAPPED", x.times(3, -1), 0);
        int[][] parts = {{3, 2, 1}, {3, 2, 1}, {2, 1, 1}, {0, 0, 0}};
        for (int v = 0; v < 4; v++) {
            for (int what = 0; what < 3; what++) check.due("parts(" + v + ", " + what + ")", x.parts(v, what), parts[v][what]);
        }
        for (int what : new int[] {-1, 3}) check.due("parts what " + what, x.parts(0, what), -1);
        for (int v : new int[] {-1, 4, 12}) {
            check.due("times of " + v, x.times(v, 0), -1);
            check.due("parts of " + v, x.parts(v, 0), -1);
        }
        x.graft(0, 0, 2, 3, 0, 2);
        x.graft(0, 0, 1, 3, 16, 1);
        check.due("a PART in two places is one", x.parts(3, 0), 2);
    }

    /** Promises 52, 53. */
    private static void families() {
        Tape x = sample();
        x.take(0, true);
        x.take(4, true);
        check.due("children(0)", x.children(0), 2 + 16);
        check.due("children(1)", x.children(1), 4);
        check.due("children(3)", x.children(3), 0);
        int[][] nearest = {{2, 5, 0}, {5, 2, 0}, {1, 2, 1}, {2, 1, 1}, {5, 5, 5}, {3, 0, -1}, {0, 3, -1}, {0, 5, 0}};
        for (int[] n : nearest) check.due("nearest " + n[0] + " " + n[1], x.nearest(n[0], n[1]), n[2]);
        int[][] none = {{0, 6}, {6, 0}, {-1, 0}, {0, 12}};
        for (int[] n : none) check.due("nearest " + n[0] + " " + n[1], x.nearest(n[0], n[1]), -1);
        for (int v : new int[] {-1, 6, 12}) check.due("children " + v, x.children(v), -1);
        x.free(0);
        check.due("no PARENT any more", x.nearest(2, 5), -1);
        check.due("the one below is yet", x.nearest(5, 4), 4);
    }

    /** Promise 54. */
    private static void runs() {
        Tape x = new Tape();
        x.make(512, 512);
        x.fill(0, 3, 4, 1);
        x.fill(0, 20, 2, 1);
        x.fill(0, 7, 2, 1);
        x.write(0, 511, 1);
        int[][] runs = {{3, 0, 4}, {7, 6, 2}, {20, 4, 2}, {511, 8, 1}};
        check.due("RUNS", x.of(0, 11), 4);
        for (int i = 0; i < 4; i++) {
            for (int what = 0; what < 3; what++) check.due("run(" + i + ", " + what + ")", x.run(0, i, what), runs[i][what]);
        }
        for (int i : new int[] {-1, 4}) check.due("run " + i, x.run(0, i, 0), -1);
        for (int what : new int[] {-1, 3}) check.due("run what " + what, x.run(0, 0, what), -1);
        for (int v : new int[] {-1, 1, 12}) check.due("run of " + v, x.run(v, 0, 0), -1);
        x.fill(0, 9, 3, 1);
        check.due("across LEAVES, but BLOCK 9 is not next to 7", x.run(0, 2, 0), 9);
        x.make(512, 512);
        x.like(1);
        x.fill(1, 0, 5, 1);
        check.due("the same BLOCK is not the next one", x.of(1, 11), 5);
        x.like(0);
        Tape y = new Tape();
        y.make(512, 512);
        y.fill(0, 60, 20, 5);
        check.due("across TWIGS", y.of(0, 11), 1);
        check.due("how long", y.run(0, 0, 2), 20);
    }

    /** Promise 56. */
    private static void needs() {
        Tape x = sample();
        String ahead = Look.at(x);
        int steps = x.steps();
        int[][] want = {{0, 0, 5, 1, 3}, {2, 0, 5, 0, 0}, {2, 1, 5, 1, 0}, {2, 9, 5, 1, 1}, {2, 70, 5, 1, 2}, {3, 0, 5, 1, 3},
            {1, 0, 5, -1, -1}, {4, 0, 5, -1, -1}, {-1, 0, 5, -1, -1}, {0, 100, 5, -1, -1}, {0, -1, 5, -1, -1},
            {0, 0, -1, -1, -1}, {0, 0, 1000000, -1, -1}};
        for (int[] w : want) {
            String call = "needs(" + w[0] + ", " + w[1] + ", " + w[2];
            check.due(call + ", 0)", x.needs(w[0], w[1], w[2], 0), w[3]);
            check.due(call + ", 1)", x.needs(w[0], w[1], w[2], 1), w[4]);
            check.due(call + ", 2)", x.needs(w[0], w[1], w[2], 2), -1);
            check.due(call + ", -1)", x.needs(w[0], w[1], w[2], -1), -1);
        }
        check.same("needs", Look.at(x), ahead);
        check.due("no STEPS", x.steps(), steps);
        x.like(1);
        check.due("LIKE 1: none, though one is free by it", x.needs(2, 0, 10, 0), 0);
        check.due("LIKE 1", x.needs(0, 0, 11, 0), 0);
        x.quota(3, 0);
        check.due("past the QUOTA", x.needs(3, 0, 5, 0), -1);
        x.reserve(0, 95);
        check.due("what is RESERVED", x.needs(2, 70, 5, 0), -1);
    }

    /** Promises 57 to 60. */
    private static void numbers() {
        Tape x = sample();
        check.due("saved", x.saved(), Float.floatToIntBits(11f / 5f));
        check.due("full(0)", x.full(0), 40);
        check.due("full(2)", x.full(2), 30);
        check.due("full(3)", x.full(3), 0);
        check.due("mean(0)", x.mean(0), Double.doubleToLongBits(31.0 / 4.0));
        check.due("mean(2)", x.mean(2), Double.doubleToLongBits(33.0 / 3.0));
        check.due("mean(3)", x.mean(3), 0);
        check.due("digest(3)", x.digest(3), 0);
        int h = 0;
        for (int a = 0; a < 100; a++) h = 31 * h + (a == 0 ? 12 : a == 1 ? 11 : a == 9 ? 10 : 0);
        check.due("digest(2)", x.digest(2), h);
        x.size(2, 10);
        h = 12;
        for (int a = 1; a < 10; a++) h = 31 * h + (a == 1 ? 11 : a == 9 ? 10 : 0);
        check.due("digest by SIZE", x.digest(2), h);
        x.size(2, 7);
        check.due("toward 0", x.full(2), 285);
        for (int v : new int[] {-1, 4, 12}) {
            check.due("full " + v, x.full(v), -1);
            check.due("mean " + v, x.mean(v), 0);
            check.due("digest " + v, x.digest(v), 0);
        }
        check.due("saved without any", new Tape().saved(), 0);
    }

    /** The bits of many quotients, as the library has them. */
    private static void bits() {
        for (int blocks = 1; blocks <= 30; blocks++) {
            Tape x = new Tape();
            x.make(512, 512);
            for (int i = 0; i < blocks; i++) x.write(0, i, i * 33333 + blocks % 3);
            double sum = 0;
            for (int i = 0; i < blocks; i++) sum += i * 33333 + blocks % 3;
            check.due("mean of " + blocks, x.mean(0), Double.doubleToLongBits(sum / blocks));
            x.like(1);
            x.fill(0, 100, 7, blocks % 3);
            x.fill(0, 200, 64, blocks % 3);
            for (int v = 1; v < 12; v++) x.take(0, true);
            check.due("saved by " + blocks, x.saved(), Float.floatToIntBits(12f * (blocks + 71) / blocks));
            check.due("full with " + blocks, x.full(0), (blocks + 71) * 1000 / 512);
        }
        Tape y = new Tape();
        y.make(512, 512);
        y.like(1);
        for (int a = 0; a < 512; a += 64) y.fill(0, a, 64, 0);
        check.due("mean 0", y.mean(0), 0);
        check.due("saved 512", y.saved(), Float.floatToIntBits(512f));
        check.due("full", y.full(0), 1000);
        Tape z = new Tape();
        z.make(512, 512);
        for (int value = 1; value < 1000000; value *= 2) {
            z.write(0, 0, value);
            check.due("mean " + value, z.mean(0), Double.doubleToLongBits(value));
        }
        y.write(0, 5, 1);
        check.due("mean below 1", y.mean(0), Double.doubleToLongBits(1.0 / 512.0));
    }

    public static void main(String[] args) {
        is();
        of();
        addresses();
        things();
        differences();
        weights();
        values();
        families();
        runs();
        needs();
        numbers();
        bits();
        check.end();
    }
}
