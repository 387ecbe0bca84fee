/** Promises 1 to 8, 12 to 14, 23: volumes made, taken, written, wiped, brought back, cut, let go. */
public final class VolumesTest {
    private static final Check check = new Check("VolumesTest");

    /** Promise 1. */
    private static void anew() {
        Tape x = new Tape();
        check.due("new is(0)", x.is(0), 0);
        check.due("new steps", x.steps(), 0);
        check.due("new back()", x.back(), 0);
        x.make(10, 10);
        check.due("back to the first image", x.back(), 0);
        check.due("is(0) then", x.is(0), 0);
        check.due("is(8) then", x.is(8), 0);
    }

    /** Promise 2. */
    private static void make() {
        Tape x = new Tape();
        int[][] wrong = {{0, 1}, {513, 1}, {-1, 1}, {1, -1}, {1, 513}, {Integer.MIN_VALUE, 0}, {1, Integer.MAX_VALUE}};
        for (int[] w : wrong) check.due("make(" + w[0] + ", " + w[1] + ")", x.make(w[0], w[1]), -1);
        check.due("no step by a wrong make", x.steps(), 0);
        check.due("make(1, 0)", x.make(1, 0), 0);
        check.due("make(512, 512)", x.make(512, 512), 1);
        int[] want = {512, 512, 0, 0, -1, 0, 0, 0, -1, 1, 0, 0};
        for (int what = 0; what < 12; what++) check.due("of(1, " + what + ")", x.of(1, what), want[what]);
        for (int v = 2; v < 12; v++) check.due("make " + v, x.make(5, 5), v);
        check.due("a 13th", x.make(5, 5), -1);
        check.due("is(8)", x.is(8), 12);
        x.free(4);
        check.due("the least that is free", x.make(7, 7), 4);
        check.due("born 12th", x.of(4, 9), 12);
    }

    /** Promise 3. */
    private static void take() {
        Tape x = new Tape();
        x.make(100, 30);
        x.write(0, 3, 9);
        x.reserve(0, 5);
        x.hold(0, true);
        check.due("take(1)", x.take(1, true), -1);
        check.due("take(-1)", x.take(-1, true), -1);
        check.due("take(12)", x.take(12, true), -1);
        check.due("take", x.take(0, false), 1);
        int[] want = {100, 30, 0, 1, 0, 0, 0, 0, 0, 1, 1, 1};
        for (int what = 0; what < 12; what++) check.due("of(1, " + what + ")", x.of(1, what), want[what]);
        check.due("of a taken one", x.take(1, true), 2);
        check.due("READ ONLY", x.of(2, 2), 1);
        check.due("two PARENTS above", x.of(2, 10), 2);
        check.due("one that is READ ONLY is taken", x.take(2, false), 3);
        check.due("and is not READ ONLY", x.of(3, 2), 0);
        check.due("the TRUNK is in 4 VOLUMES", x.ofPart(0, 1), 4);
        check.due("blocks", x.is(1), 1);
        for (int v = 4; v < 12; v++) x.take(0, true);
        check.due("a 13th", x.take(0, true), -1);
        check.due("MAPPED in all", x.is(3), 12);
    }

    /** Promise 4. */
    private static void write() {
        Tape x = new Tape();
        x.make(100, 3);
        int[][] wrong = {{1, 0, 0}, {-1, 0, 0}, {12, 0, 0}, {0, -1, 0}, {0, 100, 0}, {0, 0, -1}, {0, 0, 1000000}};
        for (int[] w : wrong) check.no("write " + w[0] + " " + w[1] + " " + w[2], x.write(w[0], w[1], w[2]));
        check.yes("edges", x.write(0, 99, 999999));
        check.yes("edges", x.write(0, 0, 0));
        check.due("a 0 that is MAPPED", x.of(0, 3), 2);
        check.due("its place in the TRUNK", x.place(0, 1), 1);
        check.due("its place in the TWIG", x.place(1, 4), 2);
        check.due("its place in the LEAF", x.place(2, 3), 0);
        check.yes("a third", x.write(0, 1, 5));
        check.no("past the QUOTA", x.write(0, 2, 5));
        check.due("parts as before", x.is(2), 5);
        check.due("blocks as before", x.is(1), 3);
        check.yes("one that is MAPPED", x.write(0, 1, 6));
        check.due("in the same BLOCK", x.block(0, 1), 2);
        check.due("READ", x.read(0, 1), 6);
        x.take(0, true);
        check.no("READ ONLY", x.write(1, 1, 7));
    }

    /** Paths are split, alone ones are kept; LIKE 1 keeps like values once. */
    private static void writeShared() {
        Tape x = new Tape();
        x.make(512, 512);
        x.write(0, 0, 10);
        x.write(0, 1, 11);
        x.write(0, 8, 12);
        x.take(0, false);
        check.yes("write to the copy", x.write(1, 0, 20));
        check.due("new TRUNK", x.of(1, 4), 4);
        check.due("new TWIG", x.path(1, 0, 1), 5);
        check.due("new LEAF", x.path(1, 0, 2), 6);
        check.due("the other LEAF is shared", x.path(1, 8, 2), x.path(0, 8, 2));
        check.due("its COUNT", x.ofPart(3, 1), 2);
        check.due("a new BLOCK", x.block(1, 0), 3);
        check.due("the one beside it is in both LEAVES", x.ofBlock(1, 1), 2);
        check.due("the old one has COUNT 1", x.ofBlock(0, 1), 1);
        check.due("of the other VOLUME", x.read(0, 0), 10);
        check.yes("again: its own BLOCK", x.write(1, 0, 21));
        check.due("is kept", x.block(1, 0), 3);
        x.like(1);
        check.yes("a like VALUE", x.write(1, 2, 11));
        check.due("is kept once", x.block(1, 2), 1);
        check.due("COUNT 3", x.ofBlock(1, 1), 3);
        check.yes("is there already, but the path is split", x.write(0, 8, 12));
        check.due("a LEAF of its own", x.path(0, 8, 2), 7);
        check.due("the BLOCK is in both", x.ofBlock(2, 1), 2);
        check.yes("a like one lets the old one go", x.write(1, 0, 12));
        check.due("BLOCK 3 is free", x.ofBlock(3, 0), -1);
        check.yes("a VALUE that is nowhere, alone: the same BLOCK has it", x.write(0, 0, 77));
        check.due("BLOCK 0", x.block(0, 0), 0);
        check.due("wrong", x.wrong(), -1);
    }

    /** Nothing is done if blocks or parts don't suffice. */
    private static void noRoom() {
        Tape x = new Tape();
        x.make(512, 512);
        check.yes("64 BLOCKS", x.fill(0, 0, 64, 1));
        check.yes("96 BLOCKS", x.fill(0, 64, 32, 1));
        String full = Look.at(x);
        check.no("a 97th", x.write(0, 96, 1));
        check.same("a 97th", Look.at(x), full);
        check.yes("one that is there", x.write(0, 95, 3));
        x.take(0, false);
        full = Look.at(x);
        check.no("a split one needs a BLOCK", x.write(1, 95, 3));
        check.same("a split one", Look.at(x), full);
        x.like(1);
        check.yes("a like one needs none", x.write(1, 95, 1));
        Tape y = new Tape();
        y.make(512, 512);
        y.like(1);
        for (int a = 0; a < 512; a += 8) y.write(0, a, 1);
        check.due("73 PARTS", y.is(2), 73);
        y.take(0, false);
        for (int a = 0; a < 512; a += 8) y.write(1, a, 2);
        check.due("146 PARTS", y.is(2), 146);
        y.take(1, false);
        for (int a = 0; a < 512; a += 8) y.write(2, a, 3);
        check.due("as many as there are", y.is(2), 160);
        String most = Look.at(y);
        check.no("no PARTS for a write", y.write(2, 511, 1));
        check.same("no PARTS for a write", Look.at(y), most);
        check.due("needs tells it", y.needs(2, 511, 1, 1), -1);
        check.no("no PARTS for a wipe", y.wipe(2, 511 - 7));
        check.same("no PARTS for a wipe", Look.at(y), most);
        check.no("no PARTS for a cut", y.size(2, 400));
        check.same("no PARTS for a cut", Look.at(y), most);
        check.yes("but where no part is split", y.write(2, 1, 1));
    }

    /** Promise 5. */
    private static void wipe() {
        Tape x = new Tape();
        x.make(512, 512);
        x.write(0, 5, 1);
        x.write(0, 6, 2);
        x.write(0, 70, 3);
        int[][] wrong = {{0, 4}, {0, -1}, {0, 512}, {1, 5}, {-1, 5}, {12, 5}};
        for (int[] w : wrong) check.no("wipe " + w[0] + " " + w[1], x.wipe(w[0], w[1]));
        check.yes("wipe", x.wipe(0, 5));
        check.due("BLOCK 0 is free", x.ofBlock(0, 0), -1);
        check.due("the LEAF has one more", x.ofPart(2, 2), 1);
        check.yes("the last of a LEAF and a TWIG", x.wipe(0, 6));
        check.due("both are free", x.is(2), 3);
        check.due("the TRUNK's place is empty", x.place(0, 0), -1);
        check.yes("the last one", x.wipe(0, 70));
        check.due("no TRUNK", x.of(0, 4), -1);
        check.due("no PARTS", x.is(2), 0);
        x.write(0, 5, 1);
        x.take(0, true);
        check.no("READ ONLY", x.wipe(1, 5));
        check.yes("a shared one", x.wipe(0, 5));
        check.due("is in the other yet", x.read(1, 5), 1);
        check.due("and alone there", x.of(1, 5), 1);
    }

    /** Promise 6. */
    private static void bring() {
        Tape x = new Tape();
        x.make(100, 1);
        x.make(200, 50);
        x.fill(1, 0, 2, 7);
        int[][] wrong = {{0, 0}, {0, 2}, {2, 0}, {-1, 0}, {0, 12}};
        for (int[] w : wrong) check.no("bring " + w[0] + " " + w[1], x.bring(w[0], w[1]));
        check.no("past the QUOTA", x.bring(0, 1));
        check.due("SIZE as it was", x.of(0, 0), 100);
        x.write(0, 9, 5);
        check.yes("to the smaller one", x.bring(1, 0));
        check.due("SIZE", x.of(1, 0), 100);
        check.due("QUOTA stays", x.of(1, 1), 50);
        check.due("TRUNK", x.of(1, 4), x.of(0, 4));
        check.due("what it had is free", x.is(1), 1);
        check.due("PARENT stays", x.of(1, 8), -1);
        check.yes("once more", x.bring(1, 0));
        check.due("COUNT", x.ofPart(x.of(1, 4), 1), 2);
        x.take(0, true);
        check.no("READ ONLY", x.bring(2, 1));
        check.yes("to one that is READ ONLY", x.bring(0, 2));
        x.make(30, 3);
        check.yes("to an empty one", x.bring(0, 3));
        check.due("no TRUNK", x.of(0, 4), -1);
        check.due("wrong", x.wrong(), -1);
    }

    /** Promise 7. */
    private static void size() {
        Tape x = new Tape();
        x.make(100, 100);
        x.write(0, 10, 1);
        x.write(0, 50, 2);
        x.write(0, 99, 3);
        int[][] wrong = {{0, 0}, {0, 513}, {0, -1}, {1, 5}, {-1, 5}, {12, 5}};
        for (int[] w : wrong) check.no("size " + w[0] + " " + w[1], x.size(w[0], w[1]));
        check.yes("grown", x.size(0, 512));
        check.due("SIZE", x.of(0, 0), 512);
        check.due("all is there", x.of(0, 3), 3);
        x.write(0, 511, 4);
        check.yes("cut", x.size(0, 50));
        check.due("USED", x.of(0, 3), 1);
        check.due("READ past it", x.read(0, 50), -1);
        check.due("BLOCKS", x.is(1), 1);
        check.due("PARTS", x.is(2), 3);
        check.yes("cut to 11", x.size(0, 11));
        check.due("stays", x.read(0, 10), 1);
        check.yes("grown anew", x.size(0, 200));
        check.due("nothing is there", x.next(0, 11), -1);
        x.take(0, true);
        check.no("READ ONLY", x.size(1, 5));
        check.yes("as it is", x.size(0, 200));
        check.due("a step all the same", x.undo() >= 0 ? 1 : 0, 1);
        check.due("SIZE", x.of(0, 0), 200);
        x.size(0, 10);
        check.due("of the taken one", x.read(1, 10), 1);
        check.due("all of this one is gone", x.of(0, 4), -1);
    }

    /** A cut goes from the highest down: what it splits there is free again when the rest is cut. */
    private static void cutFromTheTop() {
        Tape x = new Tape();
        for (int v = 0; v < 4; v++) x.make(512, 512);
        x.like(1);
        for (int a : new int[] {0, 1, 64}) x.write(0, a, 1);
        for (int a = 0; a < 512; a += 8) x.write(1, a, 1);
        for (int a = 0; a < 512; a += 8) x.write(2, a, 1);
        for (int a = 0; a < 48; a += 8) x.write(3, a, 1);
        x.take(0, true);
        check.due("PARTS", x.is(2), 159);
        check.no("one PART is free, three are needed", x.size(0, 1));
        x.size(3, 32);
        check.due("PARTS", x.is(2), 157);
        check.yes("three are free", x.size(0, 1));
        check.due("PARTS then", x.is(2), 160);
        check.due("wrong", x.wrong(), -1);
    }

    /** Promise 8. */
    private static void quota() {
        Tape x = new Tape();
        x.make(100, 10);
        x.fill(0, 0, 5, 1);
        int[][] wrong = {{0, 4}, {0, -1}, {0, 513}, {1, 5}, {-1, 5}, {12, 5}};
        for (int[] w : wrong) check.no("quota " + w[0] + " " + w[1], x.quota(w[0], w[1]));
        check.yes("USED", x.quota(0, 5));
        check.due("told", x.of(0, 1), 5);
        check.no("it holds", x.write(0, 5, 1));
        check.yes("512", x.quota(0, 512));
        check.yes("then more", x.write(0, 5, 1));
        x.take(0, true);
        check.no("READ ONLY", x.quota(1, 512));
        x.make(1, 1);
        check.yes("0", x.quota(2, 0));
        check.no("it holds, too", x.write(2, 0, 0));
        check.yes("told as it is", x.quota(2, 0));
    }

    /** Promise 12. */
    private static void reserve() {
        Tape x = new Tape();
        x.make(512, 512);
        x.make(512, 512);
        int[][] wrong = {{0, -1}, {0, 97}, {2, 5}, {-1, 5}, {12, 5}};
        for (int[] w : wrong) check.no("reserve " + w[0] + " " + w[1], x.reserve(w[0], w[1]));
        check.yes("96", x.reserve(0, 96));
        check.due("is(9)", x.is(9), 96);
        check.no("none is left", x.reserve(1, 1));
        check.no("for another one's writes, too", x.write(1, 0, 1));
        check.yes("its own", x.write(0, 0, 1));
        check.due("is(9)", x.is(9), 95);
        check.due("RESERVE stays", x.of(0, 6), 96);
        check.yes("less", x.reserve(0, 50));
        check.yes("the other one", x.reserve(1, 46));
        check.due("is(9)", x.is(9), 95);
        check.yes("0", x.reserve(1, 0));
        check.yes("USED is above it", x.reserve(0, 1));
        check.due("is(9)", x.is(9), 0);
        x.take(0, true);
        check.no("READ ONLY", x.reserve(2, 0));
        check.due("a taken one has none", x.of(2, 6), 0);
    }

    /** What is wiped may be needed again: a shared block isn't free by it. */
    private static void reserveAndWipe() {
        Tape x = new Tape();
        x.make(512, 512);
        x.fill(0, 0, 2, 1);
        x.take(0, false);
        check.yes("94 are free", x.reserve(0, 96));
        check.due("is(9)", x.is(9), 94);
        check.no("wiped, a shared one would need a 95th", x.wipe(0, 0));
        check.no("cut, too", x.size(0, 1));
        check.no("and brought to an empty one", x.make(5, 5) == 2 && x.bring(0, 2));
        check.no("and exchanged with it", x.swap(0, 2));
        check.yes("wiped of the other one", x.wipe(1, 0));
        check.yes("then one that is alone", x.wipe(0, 0));
        check.due("is(9)", x.is(9), 95);
        check.due("taken asks for none", x.take(0, true), 3);
        check.due("let go, neither", x.free(0), 0);
        check.due("is(9) then", x.is(9), 0);
    }

    /** Promise 13. */
    private static void hold() {
        Tape x = new Tape();
        x.make(5, 5);
        x.take(0, true);
        check.due("below 0", x.hold(0, false), -1);
        for (int n = 1; n <= 9; n++) check.due("hold " + n, x.hold(1, true), n);
        check.due("above 9", x.hold(1, true), -1);
        check.due("HOLDS", x.of(1, 7), 9);
        check.due("one less", x.hold(1, false), 8);
        for (int v : new int[] {-1, 2, 12}) check.due("hold " + v, x.hold(v, true), -1);
        check.due("of the other one", x.of(0, 7), 0);
    }

    /** Promise 14. */
    private static void prune() {
        Tape x = new Tape();
        x.make(50, 50);
        x.write(0, 0, 1);
        for (int v = 1; v <= 5; v++) x.take(0, v != 3);
        x.free(1);
        x.take(0, true);
        check.due("BORN latest", x.of(1, 9), 6);
        x.hold(5, true);
        for (int n : new int[] {-1, 13}) check.due("prune " + n, x.prune(n), -1);
        check.due("prune 12", x.prune(12), 0);
        check.due("as many as there are", x.prune(3), 0);
        check.due("prune 1", x.prune(1), 2);
        check.due("the latest one stays", x.of(1, 9), 6);
        check.due("2 is gone", x.of(2, 0), -1);
        check.due("3 is not READ ONLY", x.of(3, 0), 50);
        check.due("4 is gone", x.of(4, 0), -1);
        check.due("5 has HOLDS", x.of(5, 0), 50);
        check.due("prune 0", x.prune(0), 1);
        check.due("VOLUMES", x.is(0), 3);
        check.due("wrong", x.wrong(), -1);
    }

    /** Promise 23. */
    private static void free() {
        Tape x = new Tape();
        x.make(50, 50);
        x.fill(0, 0, 3, 1);
        x.take(0, false);
        x.take(1, false);
        x.take(2, false);
        x.write(1, 0, 2);
        x.write(1, 40, 2);
        for (int v : new int[] {-1, 4, 12}) check.due("free " + v, x.free(v), -1);
        x.hold(1, true);
        check.due("it has HOLDS", x.free(1), -1);
        x.hold(1, false);
        check.due("free", x.free(1), 2);
        check.due("its child has its PARENT", x.of(2, 8), 0);
        check.due("the child's child has not", x.of(3, 8), 2);
        check.due("free what is shared", x.free(0), 0);
        check.due("no PARENT", x.of(2, 8), -1);
        check.due("there is none", x.of(0, 0), -1);
        check.due("then a new one is no PARENT", x.make(5, 5) == 0 ? x.children(0) : -9, 0);
        check.due("the last but one", x.free(3), 0);
        check.due("the last one", x.free(2), 3);
        check.due("PARTS", x.is(2), 0);
        x.take(0, true);
        check.due("one that is READ ONLY", x.free(1), 0);
        x.take(0, false);
        x.reserve(1, 7);
        x.write(1, 0, 3);
        x.free(1);
        x.make(9, 8);
        int[] want = {9, 8, 0, 0, -1, 0, 0, 0, -1, 7, 0, 0};
        for (int what = 0; what < 12; what++) check.due("its number used again " + what, x.of(1, what), want[what]);
    }

    public static void main(String[] args) {
        anew();
        make();
        take();
        write();
        writeShared();
        noRoom();
        wipe();
        bring();
        size();
        cutFromTheTop();
        quota();
        reserve();
        reserveAndWipe();
        hold();
        prune();
        free();
        check.end();
    }
}
