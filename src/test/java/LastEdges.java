/** Edges at the last VOLUME (11), BLOCK (95), PART (159), ADDRESS (511): a loop that ends one too early misses them. */
final class LastEdges {
    private static final String BLOCKS_OF_THE_POOL = "BLOCKS 0 .. 95, each with a VALUE (0 .. 999999) and a COUNT";

    private final Edges edges;

    LastEdges(Edges edges) {
        this.edges = edges;
    }

    void look() {
        lastVolumeLetGo();
        lastVolumeTakenBack();
        lastVolumeBound();
        lastVolumeOfThePool();
        lastBlock();
        lastPart();
        lastPartFolded();
        lastAddress();
    }

    private Scene scene(Scene.Made made) {
        return new Scene(edges, made);
    }

    private static void eleven(ThinVolumes x) {
        for (int volume = 0; volume < 11; volume++) x.make(100, 50);
    }

    private void lastVolumeLetGo() {
        edges.promise(14, "PRUNED: how many were LET GO.");
        Scene kept = scene(x -> {
            eleven(x);
            x.take(0, true);
        });
        kept.does("prune(1), VOLUME 11 is the latest", x -> x.prune(1), 0);
        edges.due("of(11, 0)", kept.does("prune(0), VOLUME 11", x -> x.prune(0), 1).of(11, 0), -1);

        edges.promise(23, "LET GO: how many BLOCKS are free by it.");
        Scene child = scene(x -> {
            for (int volume = 0; volume < 10; volume++) x.make(100, 50);
            x.take(0, false);
            x.take(10, false);
        });
        ThinVolumes y = child.does("free(10), whose child is VOLUME 11", x -> x.free(10), 0);
        edges.due("of(11, 8)", y.of(11, 8), 0);
        edges.due("children(0)", y.children(0), 1 << 11);
    }

    private void lastVolumeTakenBack() {
        String[] names = {"SIZE", "QUOTA", "READ ONLY", "USED", "TRUNK", "ALONE", "RESERVE", "HOLDS", "PARENT", "BORN"};
        int[] want = {100, 50, 1, 1, 0, 0, 0, 0, 0, 11};
        Scene.Made taken = x -> {
            eleven(x);
            x.write(0, 7, 7);
            x.take(0, true);
            x.image();
            x.free(11);
            x.make(5, 6);
            x.reserve(11, 3);
            x.hold(11, true);
        };
        edges.promise(28, "The latest STEP is taken back: how many can be yet.");
        ThinVolumes y = scene(taken).anew();
        for (int i = 0; i < 4; i++) y.undo();
        for (int what = 0; what < want.length; what++) edges.due(names[what] + " of VOLUME 11", y.of(11, what), want[what]);

        edges.promise(62, "BACK to THE IMAGE (it stays): VOLUMES.");
        y = scene(taken).anew();
        edges.due("back()", y.back(), 12);
        for (int what = 0; what < want.length; what++) edges.due(names[what] + " of VOLUME 11", y.of(11, what), want[what]);
    }

    private void lastVolumeBound() {
        edges.promise(29, "0 VOLUMES, 1 BLOCKS that aren't free, 2 PARTS that aren't, 3 ADDRESSES that are MAPPED in all, "
                + "4 LIKE, 5 LEAVES that aren't free, 6 COUNTS of all BLOCKS together, 7 the greatest COUNT of a BLOCK "
                + "(0: none), 8 how many were MADE and TAKEN so far, 9 RESERVES less USED (0 at least, each) together, "
                + "10 rows of THE STREAM, 11 rows of THE STAGE.");
        // Two BLOCKS are used, 94 free; 88 of them are held for VOLUME 11.
        Scene held = scene(x -> {
            Scenes.twelve(x);
            x.reserve(11, 90);
        });
        held.gives("is(9), the RESERVE of VOLUME 11", x -> x.is(9), 88);

        edges.promise(11, "False, if it can't be, and for others (past SIZE, too).");
        held.no("fill(1, 0, 7, 3), one BLOCK too many for VOLUME 11's RESERVE", x -> x.fill(1, 0, 7, 3));
        edges.promise(11, "FILLED: true.");
        held.yes("fill(1, 0, 6, 3)", x -> x.fill(1, 0, 6, 3));

        Scene bound = scene(x -> {
            Scenes.twelve(x);
            x.quota(11, 2);
        });
        edges.promise(4, "False, if it can't be, and for others.");
        bound.no("write(11, 0, 1), past VOLUME 11's QUOTA", x -> x.write(11, 0, 1));
        edges.promise(4, "WRITTEN: true.");
        bound.yes("write(11, 5, 1), MAPPED already", x -> x.write(11, 5, 1));
    }

    private void lastVolumeOfThePool() {
        edges.promise(22, "PARTS folded: how many PARTS are free by it.");
        Scene like = scene(x -> {
            eleven(x);
            x.make(100, 50);
            x.like(1);
            x.write(0, 0, 1);
            x.write(11, 0, 1);
        });
        edges.due("of(11, 4)", like.does("fold(), VOLUME 11 as VOLUME 0", ThinVolumes::fold, 3).of(11, 4), 0);

        edges.promise(27, "LAID CLOSE: how many BLOCKS have another number.");
        Scene wide = scene(x -> {
            eleven(x);
            x.make(100, 50);
            x.write(0, 0, 1);
            x.write(11, 0, 2);
            x.free(0);
        });
        ThinVolumes y = wide.does("close(), of VOLUME 11 alone", ThinVolumes::close, 1);
        edges.due("of(11, 4)", y.of(11, 4), 0);
        edges.due("read(11, 0)", y.read(11, 0), 2);
    }

    private void lastBlock() {
        // BLOCK 95 has VALUE 7, all others have VALUE 1.
        Scene full = scene(x -> {
            Scenes.blocks(x, 96);
            x.write(0, 95, 7);
            x.like(1);
        });
        edges.terms(BLOCKS_OF_THE_POOL);
        full.gives("block(0, 95)", x -> x.block(0, 95), 95);
        full.gives("is(6)", x -> x.is(6), 96);
        edges.promise(35, "What is in a place (0 .. 7) of a PART (the BLOCK, the PART).");
        full.gives("place(path(0, 95, 2), 7)", x -> x.place(x.path(0, 95, 2), 7), 95);
        edges.promise(4, "WRITTEN: true.");
        ThinVolumes y = full.yes("write(1, 0, 7) by LIKE 1, BLOCK 95 alone has it", x -> x.write(1, 0, 7));
        edges.due("block(1, 0)", y.block(1, 0), 95);
        edges.due("ofBlock(95, 1)", y.ofBlock(95, 1), 2);
        edges.promise(4, "False, if it can't be, and for others.");
        full.no("write(1, 0, 8) by LIKE 1, no BLOCK has it", x -> x.write(1, 0, 8));
        edges.promise(25, "SPOILT: true.");
        edges.due("is(6)", full.yes("spoil(95, 999)", x -> x.spoil(95, 999)).is(6), 95 + 999);
    }

    private void lastPart() {
        // PART 159 is the LEAF of VOLUME 2 at 80, the last of its eleven.
        Scene full = scene(x -> Scenes.parts(x, 0));
        edges.promise(43, "The PART on the way to an ADDRESS, 0 the TRUNK, 1 the TWIG, 2 the LEAF.");
        full.gives("path(2, 80, 2)", x -> x.path(2, 80, 2), 159);
        edges.promise(49, "How many PARTS a VOLUME has: 0 LEAVES, 1 TWIGS, 2 TRUNKS (a PART in two places is one).");
        full.gives("parts(2, 0)", x -> x.parts(2, 0), 11);

        edges.promise(41, "How many BLOCKS would be free, were all VOLUMES of these bits LET GO, one after another.");
        Scene own = scene(x -> {
            Scenes.parts(x, 0);
            x.write(2, 80, 9);
        });
        own.gives("frees(4), one BLOCK in PART 159", x -> x.frees(4), 1);

        edges.promise(21, "LIKE ONES folded: how many BLOCKS are free by it.");
        Scene like = scene(x -> {
            Scenes.parts(x, 0);
            x.like(0);
            x.write(2, 80, 1);
        });
        edges.due("block(2, 80)", like.does("merge(), in PART 159", ThinVolumes::merge, 1).block(2, 80), 0);

        edges.promise(27, "LAID CLOSE: how many BLOCKS have another number.");
        Scene gap = scene(x -> {
            Scenes.parts(x, 0);
            x.wipe(2, 0);
        });
        ThinVolumes y = gap.does("close(), PART 159 and others have another number", ThinVolumes::close, 0);
        edges.due("path(2, 80, 2)", y.path(2, 80, 2), 158);
        edges.due("read(2, 80)", y.read(2, 80), 1);
        edges.due("ofPart(159, 0)", y.ofPart(159, 0), -1);
        edges.due("wrong()", y.wrong(), -1);
    }

    private void lastPartFolded() {
        edges.promise(22, "PARTS folded: how many PARTS are free by it.");
        // A full LEAF and one with a BLOCK at its place 0, TWIGS with eight of the one, eight and three of the other.
        ThinVolumes y = scene(x -> Scenes.parts(x, 0)).does("fold(), the LEAF 159, too", ThinVolumes::fold, 153);
        edges.due("path(2, 80, 2) is as path(2, 0, 2)", y.path(2, 80, 2), y.path(2, 0, 2));
        Scene twig = scene(x -> {
            Scenes.parts(x, 2);
            x.graft(2, 64, 1, 3, 0, 1);
        });
        twig.gives("path(3, 0, 1)", x -> x.path(3, 0, 1), 159);
        y = twig.does("fold(), a LEAF in the TWIG 159", ThinVolumes::fold, 152);
        edges.due("path(3, 0, 2) is as path(2, 0, 2)", y.path(3, 0, 2), y.path(2, 0, 2));
    }

    private void lastAddress() {
        Scene cut = scene(x -> {
            x.make(512, 512);
            x.write(0, 511, 1);
            x.make(511, 512);
        });
        edges.promise(10, "False, if it can't be, and for others.");
        cut.no("graft(0, 511, 1, 1, 510, 1), 511 were MAPPED then", x -> x.graft(0, 511, 1, 1, 510, 1));
        cut.no("graft(0, 511, 2, 1, 510, 2), 511 were MAPPED then", x -> x.graft(0, 511, 2, 1, 510, 2));
        edges.promise(10, "GRAFTED: true.");
        cut.yes("graft(0, 511, 0, 1, 510, 0), 510 alone", x -> x.graft(0, 511, 0, 1, 510, 0));
        Scene whole = scene(x -> {
            x.make(512, 512);
            x.write(0, 511, 1);
            x.make(512, 512);
        });
        edges.due("read(1, 511)", whole.yes("graft(0, 511, 1, 1, 511, 1)", x -> x.graft(0, 511, 1, 1, 511, 1)).read(1, 511), 1);
        edges.due("read(1, 511)", whole.yes("graft(0, 511, 2, 1, 511, 2)", x -> x.graft(0, 511, 2, 1, 511, 2)).read(1, 511), 1);
    }
}
