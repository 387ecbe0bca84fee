/** Edges of promises 29 to 43: what is told of the pool, of volumes, blocks and parts, and how two volumes differ. */
final class ToldEdges {
    private static final int[] NOTHING_TOLD = {Integer.MIN_VALUE, -2, -1, 12, 13, Integer.MAX_VALUE};
    private static final int[] NO_THIRDS = {Integer.MIN_VALUE, -2, -1, 3, 4, Integer.MAX_VALUE};

    private final Edges edges;
    private final Scene fresh;
    private final Scene plain;
    private final Scene fullBlocks;
    private final Scene fullParts;

    ToldEdges(Edges edges) {
        this.edges = edges;
        fresh = new Scene(edges, x -> { });
        plain = new Scene(edges, Scenes::plain);
        fullBlocks = new Scene(edges, x -> Scenes.blocks(x, 96));
        fullParts = new Scene(edges, x -> Scenes.parts(x, 0));
    }

    void look() {
        is();
        of();
        read();
        block();
        ofBlock();
        ofPart();
        place();
        owners();
        wrong();
        differs();
        walked();
        changed();
        frees();
        heaviest();
        path();
    }

    private Scene scene(Scene.Made made) {
        return new Scene(edges, made);
    }

    private void is() {
        edges.promise(29, "0 VOLUMES, 1 BLOCKS that aren't free, 2 PARTS that aren't, 3 ADDRESSES that are MAPPED in all, "
            + "4 LIKE, 5 LEAVES that aren't free, 6 COUNTS of all BLOCKS together, 7 the greatest COUNT of a BLOCK (0: none), "
            + "8 how many were MADE and TAKEN so far, 9 RESERVES less USED (0 at least, each) together, "
            + "10 rows of THE STREAM, 11 rows of THE STAGE.");
        // PARTS: of 0 a TRUNK, two TWIGS, two LEAVES; of 1 one of each.
        int[] want = {3, 5, 8, 9, 0, 3, 5, 1, 3, 0, 5, 2};
        for (int what = 0; what <= 11; what++) {
            int asked = what;
            plain.gives("is(" + what + ")", x -> x.is(asked), want[what]);
            fresh.gives("is(" + what + ") of none", x -> x.is(asked), 0);
        }
        scene(Scenes::twelve).gives("is(0), 12", x -> x.is(0), 12);
        fullBlocks.gives("is(1), 96", x -> x.is(1), 96);
        fullParts.gives("is(2), 160", x -> x.is(2), 160);
        fullParts.gives("is(3), in LEAVES that are shared, too", x -> x.is(3), 1024 + 11);
        fullParts.gives("is(5)", x -> x.is(5), 128 + 11);
        fullParts.gives("is(7), one BLOCK in all places", x -> x.is(7), 1024 + 11);
        Scene spoilt = scene(x -> {
            Scenes.plain(x);
            x.spoil(4, 999);
        });
        spoilt.gives("is(6), COUNTS as they are told", x -> x.is(6), 4 + 999);
        spoilt.gives("is(7), COUNTS as they are told", x -> x.is(7), 999);
        Scene reserves = scene(x -> {
            Scenes.plain(x);
            x.reserve(0, 4);
            x.reserve(1, 1);
        });
        reserves.gives("is(9), as many as are USED", x -> x.is(9), 0);
        scene(x -> {
            Scenes.plain(x);
            x.reserve(0, 3);
            x.reserve(1, 3);
        }).gives("is(9), one below USED counts 0", x -> x.is(9), 2);
        scene(x -> {
            Scenes.plain(x);
            x.free(1);
            x.make(5, 5);
        }).gives("is(8), those let go, too", x -> x.is(8), 4);

        edges.promise(29, "NONE for others.");
        for (int what : NOTHING_TOLD) plain.none("is(" + what + ")", x -> x.is(what));
    }

    private void of() {
        edges.promise(30, "Of a VOLUME: 0 SIZE, 1 QUOTA, 2 READ ONLY (1, 0), 3 USED, 4 its TRUNK (NONE), 5 ALONE, "
            + "6 RESERVE, 7 HOLDS, 8 PARENT (NONE), 9 BORN, 10 how many PARENTS above one another, 11 RUNS.");
        int[][] want = {
            {100, 50, 0, 4, 0, 0, 0, 0, -1, 0, 0, 2},
            {20, 10, 0, 1, 5, 1, 0, 0, -1, 1, 0, 1},
            {100, 50, 1, 4, 0, 0, 0, 1, 0, 2, 1, 2}};
        for (int volume = 0; volume <= 2; volume++) {
            for (int what = 0; what <= 11; what++) {
                int its = volume;
                int asked = what;
                plain.gives("of(" + volume + ", " + what + ")", x -> x.of(its, asked), want[volume][what]);
            }
        }
        Scene chain = scene(x -> {
            x.make(1, 0);
            for (int volume = 0; volume < 11; volume++) x.take(volume, volume % 2 == 0);
        });
        chain.gives("of(11, 10), as many as can be", x -> x.of(11, 10), 11);
        chain.gives("of(0, 10)", x -> x.of(0, 10), 0);
        chain.gives("of(11, 8)", x -> x.of(11, 8), 10);
        scene(x -> {
            x.make(1, 0);
            for (int volume = 0; volume < 11; volume++) x.take(volume, false);
            x.free(5);
            x.free(0);
        }).gives("of(11, 10), two were let go", x -> x.of(11, 10), 9);
        fullParts.gives("of(0, 3)", x -> x.of(0, 3), 512);
        fullParts.gives("of(0, 5), the BLOCK is in others, too", x -> x.of(0, 5), 0);
        fullParts.gives("of(0, 11), the same BLOCK is not the next one", x -> x.of(0, 11), 512);
        fullBlocks.gives("of(0, 5), all", x -> x.of(0, 5), 96);
        fullBlocks.gives("of(0, 11)", x -> x.of(0, 11), 1);

        edges.promise(30, "NONE for others.");
        for (int what : NOTHING_TOLD) plain.none("of(0, " + what + ")", x -> x.of(0, what));
        for (int volume : Scenes.NO_VOLUMES) {
            for (int what = 0; what <= 11; what++) {
                int asked = what;
                plain.none("of(" + volume + ", " + what + ")", x -> x.of(volume, asked));
            }
        }
    }

    private void read() {
        edges.promise(31, "READ.");
        int[][] want = {{7, 0}, {8, 5}, {10, 5}, {11, 0}, {98, 0}, {99, 6}, {0, 0}};
        for (int[] w : want) plain.gives("read(0, " + w[0] + ")", x -> x.read(0, w[0]), w[1]);
        plain.gives("read(2, 99), READ ONLY", x -> x.read(2, 99), 6);
        Scene edgy = scene(x -> {
            x.make(512, 512);
            for (int address : new int[] {0, 7, 8, 63, 64, 511}) x.write(0, address, 999999 - address);
            x.write(0, 1, 0);
        });
        for (int address : new int[] {0, 7, 8, 63, 64, 511}) {
            edgy.gives("read(0, " + address + ")", x -> x.read(0, address), 999999 - address);
        }
        for (int address : new int[] {1, 6, 9, 62, 65, 510}) {
            edgy.gives("read(0, " + address + "), 0 or not MAPPED", x -> x.read(0, address), 0);
        }

        edges.promise(31, "NONE for others (an ADDRESS past SIZE, too).");
        for (int address : new int[] {Integer.MIN_VALUE, -1, 100, 511, 512, Integer.MAX_VALUE}) {
            plain.none("read(0, " + address + ")", x -> x.read(0, address));
        }
        plain.none("read(1, 20), of SIZE 20", x -> x.read(1, 20));
        plain.gives("read(1, 19), of SIZE 20", x -> x.read(1, 19), 0);
        for (int volume : Scenes.NO_VOLUMES) plain.none("read(" + volume + ", 0)", x -> x.read(volume, 0));
        for (int address : new int[] {-1, 512}) edgy.none("read(0, " + address + ")", x -> x.read(0, address));
    }

    private void block() {
        edges.promise(32, "The BLOCK at an ADDRESS.");
        int[][] want = {{8, 0}, {9, 1}, {10, 2}, {99, 3}};
        for (int[] w : want) plain.gives("block(0, " + w[0] + ")", x -> x.block(0, w[0]), w[1]);
        plain.gives("block(2, 99), READ ONLY", x -> x.block(2, 99), 3);
        fullBlocks.gives("block(0, 95), the last one", x -> x.block(0, 95), 95);

        edges.promise(32, "NONE: it is not MAPPED, and for others.");
        for (int address : new int[] {Integer.MIN_VALUE, -1, 0, 7, 11, 50, 98, 100, 512, Integer.MAX_VALUE}) {
            plain.none("block(0, " + address + ")", x -> x.block(0, address));
        }
        plain.none("block(1, 20)", x -> x.block(1, 20));
        for (int volume : Scenes.NO_VOLUMES) plain.none("block(" + volume + ", 0)", x -> x.block(volume, 0));
    }

    private void ofBlock() {
        edges.promise(33, "Of a BLOCK: 0 VALUE, 1 COUNT, 2 in how many places it is.");
        Scene spoilt = scene(x -> {
            Scenes.plain(x);
            x.graft(0, 99, 0, 1, 3, 0);
            x.spoil(3, 999);
            x.spoil(4, 1);
        });
        int[] want = {6, 999, 2};
        for (int what = 0; what <= 2; what++) {
            int asked = what;
            spoilt.gives("ofBlock(3, " + what + ")", x -> x.ofBlock(3, asked), want[what]);
        }
        fullBlocks.gives("ofBlock(95, 0), the last one", x -> x.ofBlock(95, 0), 1);
        fullBlocks.gives("ofBlock(0, 2)", x -> x.ofBlock(0, 2), 1);
        fullParts.gives("ofBlock(0, 1)", x -> x.ofBlock(0, 1), 1024 + 11);
        fullParts.gives("ofBlock(0, 2)", x -> x.ofBlock(0, 2), 1024 + 11);

        edges.promise(33, "NONE: it is free, and for others.");
        for (int block : new int[] {Integer.MIN_VALUE, -1, 96, Integer.MAX_VALUE}) {
            for (int what = 0; what <= 2; what++) {
                int asked = what;
                fullBlocks.none("ofBlock(" + block + ", " + what + ")", x -> x.ofBlock(block, asked));
                plain.none("ofBlock(5, " + what + "), the first that is free", x -> x.ofBlock(5, asked));
                plain.none("ofBlock(95, " + what + "), free", x -> x.ofBlock(95, asked));
            }
        }
        for (int what : NO_THIRDS) plain.none("ofBlock(0, " + what + ")", x -> x.ofBlock(0, what));
        scene(x -> {
            Scenes.plain(x);
            x.wipe(1, 0);
        }).none("ofBlock(4, 0), free again", x -> x.ofBlock(4, 0));
    }

    private void ofPart() {
        edges.promise(34, "Of a PART: 0 what it is (0 LEAF, 1 TWIG, 2 TRUNK), 1 COUNT, 2 how many of its places have something.");
        int[][] want = {{2, 2, 2}, {1, 1, 1}, {0, 1, 3}, {1, 1, 1}, {0, 1, 1}, {2, 1, 1}, {1, 1, 1}, {0, 1, 1}};
        for (int part = 0; part < 8; part++) {
            for (int what = 0; what <= 2; what++) {
                int its = part;
                int asked = what;
                plain.gives("ofPart(" + part + ", " + what + ")", x -> x.ofPart(its, asked), want[part][what]);
            }
        }
        fullParts.gives("ofPart(159, 0), the last one", x -> x.ofPart(159, 0), 0);
        fullParts.gives("ofPart(0, 2), all places", x -> x.ofPart(0, 2), 8);

        edges.promise(34, "NONE: it is free, and for others.");
        for (int part : new int[] {Integer.MIN_VALUE, -1, 160, Integer.MAX_VALUE}) {
            fullParts.none("ofPart(" + part + ", 0)", x -> x.ofPart(part, 0));
        }
        for (int what = 0; what <= 2; what++) {
            int asked = what;
            plain.none("ofPart(8, " + what + "), the first that is free", x -> x.ofPart(8, asked));
            plain.none("ofPart(159, " + what + "), free", x -> x.ofPart(159, asked));
        }
        for (int what : NO_THIRDS) plain.none("ofPart(0, " + what + ")", x -> x.ofPart(0, what));
        scene(x -> {
            Scenes.plain(x);
            x.free(1);
        }).none("ofPart(7, 0), free again", x -> x.ofPart(7, 0));
    }

    private void place() {
        edges.promise(35, "What is in a place (0 .. 7) of a PART (the BLOCK, the PART).");
        int[][] want = {{0, 0, 1}, {0, 1, 3}, {1, 1, 2}, {2, 0, 0}, {2, 2, 2}, {3, 4, 4}, {4, 3, 3}, {7, 0, 4}};
        for (int[] w : want) plain.gives("place(" + w[0] + ", " + w[1] + ")", x -> x.place(w[0], w[1]), w[2]);
        Scene last = scene(x -> {
            x.make(512, 512);
            x.write(0, 511, 1);
        });
        for (int part = 0; part < 3; part++) {
            int its = part;
            last.gives("place(" + part + ", 7)", x -> x.place(its, 7), part == 2 ? 0 : part + 1);
            last.none("place(" + part + ", 6)", x -> x.place(its, 6));
            last.none("place(" + part + ", 8)", x -> x.place(its, 8));
        }
        fullParts.gives("place(159, 0), the last PART", x -> x.place(159, 0), 0);
        Scene first = scene(x -> {
            x.make(9, 9);
            x.make(9, 9);
            x.write(0, 0, 1);
            x.write(1, 0, 1);
            x.free(0);
            x.write(1, 8, 2);
        });
        first.gives("place(4, 1), PART 0 in a place", x -> x.place(4, 1), 0);
        first.gives("path(1, 8, 2)", x -> x.path(1, 8, 2), 0);

        edges.promise(35, "NONE: nothing, and for others.");
        for (int place : new int[] {Integer.MIN_VALUE, -1, 8, 9, Integer.MAX_VALUE}) {
            fullParts.none("place(0, " + place + ")", x -> x.place(0, place));
            fullParts.none("place(3, " + place + ")", x -> x.place(3, place));
        }
        for (int part : new int[] {Integer.MIN_VALUE, -1, 160, Integer.MAX_VALUE}) {
            fullParts.none("place(" + part + ", 0)", x -> x.place(part, 0));
        }
        plain.none("place(2, 3), nothing", x -> x.place(2, 3));
        plain.none("place(0, 7), nothing", x -> x.place(0, 7));
        plain.none("place(8, 0), free", x -> x.place(8, 0));
        Scene gone = scene(x -> {
            Scenes.plain(x);
            x.free(1);
        });
        for (int part = 5; part <= 7; part++) {
            int its = part;
            gone.none("place(" + part + ", 0), free again", x -> x.place(its, 0));
        }
    }

    private void owners() {
        edges.promise(36, "How many VOLUMES have a BLOCK somewhere.");
        plain.gives("owners(0), two by one TRUNK", x -> x.owners(0), 2);
        plain.gives("owners(4)", x -> x.owners(4), 1);
        fullBlocks.gives("owners(95), the last one", x -> x.owners(95), 1);
        fullParts.gives("owners(0), often in each", x -> x.owners(0), 3);
        scene(x -> {
            x.make(512, 5);
            x.write(0, 511, 1);
            for (int volume = 1; volume < 12; volume++) x.take(0, true);
        }).gives("owners(0), all", x -> x.owners(0), 12);
        scene(x -> {
            Scenes.plain(x);
            x.spoil(4, 999);
        }).gives("owners(4), COUNTS are not looked at", x -> x.owners(4), 1);

        edges.promise(36, "NONE: it is free, and for others.");
        for (int block : new int[] {Integer.MIN_VALUE, -1, 96, Integer.MAX_VALUE}) {
            fullBlocks.none("owners(" + block + ")", x -> x.owners(block));
        }
        plain.none("owners(5), free", x -> x.owners(5));
        plain.none("owners(95), free", x -> x.owners(95));
    }

    private void wrong() {
        edges.promise(37, "Whether a COUNT of a BLOCK, a PART is WRONG; the first one (BLOCKS 0 .. 95, then PARTS as 96 and the number).");
        for (int block : new int[] {0, 95}) {
            scene(x -> {
                Scenes.blocks(x, 96);
                x.spoil(block, 2);
            }).gives("wrong(), BLOCK " + block, ThinVolumes::wrong, block);
        }
        scene(x -> {
            Scenes.blocks(x, 96);
            x.spoil(94, 2);
            x.spoil(95, 2);
            x.spoil(93, 1);
        }).gives("wrong(), the first of two", ThinVolumes::wrong, 94);
        scene(x -> {
            Scenes.plain(x);
            x.merge();
            x.spoil(0, 2);
        }).gives("wrong(), too low by one", ThinVolumes::wrong, 0);

        edges.promise(37, "NONE: none.");
        fresh.none("wrong() of none", ThinVolumes::wrong);
        plain.none("wrong()", ThinVolumes::wrong);
        fullParts.none("wrong(), of all PARTS", ThinVolumes::wrong);
        scene(x -> {
            Scenes.plain(x);
            x.spoil(0, 1);
        }).none("wrong(), told as it is", ThinVolumes::wrong);
        scene(x -> {
            Scenes.plain(x);
            x.spoil(0, 5);
            x.spoil(0, 1);
        }).none("wrong(), right again", ThinVolumes::wrong);
        scene(x -> {
            Scenes.plain(x);
            x.spoil(0, 5);
            x.mend();
        }).none("wrong(), MENDED", ThinVolumes::wrong);
    }

    private void differs() {
        edges.promise(38, "DIFFERENCE: how many ADDRESSES (i NONE); the i-th.");
        int[] want = {0, 8, 9, 10, 99};
        plain.gives("differs(0, 1, -1)", x -> x.differs(0, 1, -1), 5);
        for (int i = 0; i < 5; i++) {
            int its = i;
            plain.gives("differs(0, 1, " + i + ")", x -> x.differs(0, 1, its), want[i]);
            plain.gives("differs(1, 0, " + i + "), past the SIZE of one", x -> x.differs(1, 0, its), want[i]);
        }
        plain.gives("differs(0, 2, -1), the same TRUNK", x -> x.differs(0, 2, -1), 0);
        plain.gives("differs(0, 0, -1), the same VOLUME", x -> x.differs(0, 0, -1), 0);
        fullParts.gives("differs(0, 3, -1), all", x -> x.differs(0, 3, -1), 512);
        fullParts.gives("differs(3, 0, 511), the last", x -> x.differs(3, 0, 511), 511);
        fullParts.gives("differs(0, 1, -1), the same BLOCK in other PARTS", x -> x.differs(0, 1, -1), 0);
        fullParts.gives("differs(3, 3, -1), none at both", x -> x.differs(3, 3, -1), 0);
        scene(x -> {
            Scenes.blocks(x, 1);
            x.write(1, 0, 1);
        }).gives("differs(0, 1, -1), like VALUES of two BLOCKS", x -> x.differs(0, 1, -1), 1);

        edges.promise(38, "NONE: there is none such, and for others.");
        for (int i : new int[] {Integer.MIN_VALUE, -2, 5, 6, 512, Integer.MAX_VALUE}) {
            plain.none("differs(0, 1, " + i + ")", x -> x.differs(0, 1, i));
        }
        plain.none("differs(0, 2, 0), of none", x -> x.differs(0, 2, 0));
        fullParts.none("differs(0, 3, 512)", x -> x.differs(0, 3, 512));
        for (int volume : Scenes.NO_VOLUMES) {
            plain.none("differs(" + volume + ", 0, -1)", x -> x.differs(volume, 0, -1));
            plain.none("differs(0, " + volume + ", -1)", x -> x.differs(0, volume, -1));
        }
    }

    private void walked() {
        edges.promise(39, "WALKED by the DIFFERENCE.");
        plain.gives("walked(0, 2), the same TRUNK", x -> x.walked(0, 2), 0);
        plain.gives("walked(1, 1)", x -> x.walked(1, 1), 0);
        // TRUNKS; at 0 TWIGS, and LEAVES at 0 (none in 0) and 8 (none in 1); at 64 a TWIG and a LEAF against none.
        plain.gives("walked(0, 1)", x -> x.walked(0, 1), 6);
        plain.gives("walked(1, 0)", x -> x.walked(1, 0), 6);
        fullParts.gives("walked(0, 3), all against none", x -> x.walked(0, 3), 73);
        fullParts.gives("walked(0, 1), all, though they don't differ", x -> x.walked(0, 1), 73);
        fullParts.gives("walked(3, 3), none on both sides", x -> x.walked(3, 3), 0);
        scene(x -> {
            x.make(5, 5);
            x.make(5, 5);
        }).gives("walked(0, 1), none on both sides", x -> x.walked(0, 1), 0);
        scene(x -> {
            Scenes.taken(x, false);
            x.write(2, 8, 1);
        }).gives("walked(0, 2), the TWIG at 64 is the same", x -> x.walked(0, 2), 3);

        edges.promise(39, "NONE for others.");
        for (int volume : Scenes.NO_VOLUMES) {
            plain.none("walked(" + volume + ", 0)", x -> x.walked(volume, 0));
            plain.none("walked(0, " + volume + ")", x -> x.walked(0, volume));
        }
    }

    private void changed() {
        edges.promise(40, "CHANGED: how many (i NONE); the i-th.");
        // At 0 like VALUES of two BLOCKS, at 3 a VALUE of 0 against none, at 8 5 against 6, at 99 6 against none.
        Scene scene = scene(x -> {
            x.make(100, 50);
            x.make(20, 20);
            x.write(0, 0, 4);
            x.write(1, 0, 4);
            x.write(0, 3, 0);
            x.write(0, 8, 5);
            x.write(1, 8, 6);
            x.write(0, 99, 6);
        });
        scene.gives("differs(0, 1, -1)", x -> x.differs(0, 1, -1), 4);
        scene.gives("changed(0, 1, -1)", x -> x.changed(0, 1, -1), 2);
        scene.gives("changed(0, 1, 0)", x -> x.changed(0, 1, 0), 8);
        scene.gives("changed(1, 0, 1), past the SIZE of one", x -> x.changed(1, 0, 1), 99);
        plain.gives("changed(0, 2, -1), the same TRUNK", x -> x.changed(0, 2, -1), 0);
        plain.gives("changed(1, 1, -1), the same VOLUME", x -> x.changed(1, 1, -1), 0);
        fullParts.gives("changed(0, 3, -1), all", x -> x.changed(0, 3, -1), 512);
        fullParts.gives("changed(0, 3, 511), the last", x -> x.changed(0, 3, 511), 511);

        edges.promise(40, "NONE: there is none such, and for others.");
        for (int i : new int[] {Integer.MIN_VALUE, -2, 2, 3, 512, Integer.MAX_VALUE}) {
            scene.none("changed(0, 1, " + i + ")", x -> x.changed(0, 1, i));
        }
        plain.none("changed(0, 2, 0), of none", x -> x.changed(0, 2, 0));
        fullParts.none("changed(0, 3, 512)", x -> x.changed(0, 3, 512));
        for (int volume : Scenes.NO_VOLUMES) {
            plain.none("changed(" + volume + ", 0, -1)", x -> x.changed(volume, 0, -1));
            plain.none("changed(0, " + volume + ", -1)", x -> x.changed(0, volume, -1));
        }
    }

    private void frees() {
        edges.promise(41, "How many BLOCKS would be free, were all VOLUMES of these bits LET GO, one after another.");
        int[][] want = {{0, 0}, {1, 0}, {2, 1}, {3, 1}, {4, 0}, {5, 4}, {6, 1}, {7, 5}};
        for (int[] w : want) plain.gives("frees(" + w[0] + ")", x -> x.frees(w[0]), w[1]);
        fresh.gives("frees(0)", x -> x.frees(0), 0);
        Scene twelve = scene(Scenes::twelve);
        twelve.gives("frees(4095), all", x -> x.frees(4095), 2);
        twelve.gives("frees(2048)", x -> x.frees(2048), 0);
        twelve.gives("frees(2049)", x -> x.frees(2049), 2);
        fullBlocks.gives("frees(1)", x -> x.frees(1), 96);

        edges.promise(41, "NONE: one is none.");
        for (int bits : new int[] {8, 9, 15, 2048, 4096, 4097, -1, Integer.MIN_VALUE, Integer.MIN_VALUE + 1, Integer.MAX_VALUE}) {
            plain.none("frees(" + bits + ")", x -> x.frees(bits));
        }
        for (int bits : new int[] {4096, 4097, 8191, -1, Integer.MIN_VALUE, Integer.MIN_VALUE + 1}) {
            twelve.none("frees(" + bits + ")", x -> x.frees(bits));
        }
        fresh.none("frees(1)", x -> x.frees(1));
    }

    private void heaviest() {
        edges.promise(42, "The VOLUME by which, were it LET GO, most BLOCKS were free (of like ones the least).");
        plain.gives("heaviest()", ThinVolumes::heaviest, 1);
        scene(x -> x.make(1, 0)).gives("heaviest(), an empty one alone", ThinVolumes::heaviest, 0);
        scene(Scenes::twelve).gives("heaviest(), all free none", ThinVolumes::heaviest, 0);
        scene(x -> {
            Scenes.twelve(x);
            x.write(11, 20, 1);
        }).gives("heaviest(), the last one", ThinVolumes::heaviest, 11);
        scene(x -> {
            x.make(5, 5);
            x.make(5, 5);
            x.make(5, 5);
            x.write(1, 0, 1);
            x.write(2, 0, 1);
        }).gives("heaviest(), two like ones", ThinVolumes::heaviest, 1);
        scene(x -> {
            x.make(5, 5);
            x.make(5, 5);
            x.free(0);
        }).gives("heaviest(), 0 is none", ThinVolumes::heaviest, 1);

        edges.promise(42, "NONE: there is none.");
        fresh.none("heaviest()", ThinVolumes::heaviest);
        scene(x -> {
            x.make(5, 5);
            x.free(0);
        }).none("heaviest(), let go", ThinVolumes::heaviest);
    }

    private void path() {
        edges.promise(43, "The PART on the way to an ADDRESS, 0 the TRUNK, 1 the TWIG, 2 the LEAF.");
        int[][] want = {{8, 0, 1, 2}, {10, 0, 1, 2}, {15, 0, 1, 2}, {16, 0, 1, -1}, {7, 0, 1, -1}, {63, 0, 1, -1}, {64, 0, 3, -1}, {96, 0, 3, 4}, {99, 0, 3, 4}};
        for (int[] w : want) {
            for (int i = 0; i <= 2; i++) {
                int its = i;
                plain.gives("path(0, " + w[0] + ", " + i + ")", x -> x.path(0, w[0], its), w[i + 1]);
            }
        }
        fullParts.gives("path(2, 80, 2), the last PART", x -> x.path(2, 80, 2), 159);
        fullParts.gives("path(0, 511, 2)", x -> x.path(0, 511, 2), 72);

        edges.promise(43, "NONE: none, and for others.");
        for (int i : NO_THIRDS) plain.none("path(0, 8, " + i + ")", x -> x.path(0, 8, i));
        for (int address : new int[] {Integer.MIN_VALUE, -1, 100, 512, Integer.MAX_VALUE}) {
            plain.none("path(0, " + address + ", 0)", x -> x.path(0, address, 0));
        }
        for (int volume : Scenes.NO_VOLUMES) plain.none("path(" + volume + ", 0, 0)", x -> x.path(volume, 0, 0));
        for (int i = 0; i <= 2; i++) {
            int its = i;
            fullParts.none("path(3, 0, " + i + "), no TRUNK", x -> x.path(3, 0, its));
        }
    }
}
