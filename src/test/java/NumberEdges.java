/** Edges of promises 44 to 60: values found, counts, rows, families, runs, what a write needs, and numbers. */
final class NumberEdges {
    private static final int[] NO_THIRDS = {Integer.MIN_VALUE, -2, -1, 3, 4, Integer.MAX_VALUE};
    private static final int[] NO_HALVES = {Integer.MIN_VALUE, -2, -1, 2, 3, Integer.MAX_VALUE};

    private final Edges edges;
    private final Scene fresh;
    private final Scene plain;
    private final Scene fullBlocks;
    private final Scene fullParts;

    NumberEdges(Edges edges) {
        this.edges = edges;
        fresh = new Scene(edges, x -> { });
        plain = new Scene(edges, Scenes::plain);
        fullBlocks = new Scene(edges, x -> Scenes.blocks(x, 96));
        fullParts = new Scene(edges, x -> Scenes.parts(x, 0));
    }

    void look() {
        find();
        times();
        counted();
        hottest();
        leaves();
        parts();
        staged();
        stream();
        children();
        nearest();
        run();
        next();
        needs();
        needsOfWhatCannotBe();
        saved();
        full();
        mean();
        digest();
    }

    private Scene scene(Scene.Made made) {
        return new Scene(edges, made);
    }

    private void find() {
        edges.promise(44, "The first VOLUME, ADDRESS (512 times the VOLUME and it) that is MAPPED with that VALUE.");
        plain.gives("find(5)", x -> x.find(5), 8);
        plain.gives("find(6)", x -> x.find(6), 99);
        plain.gives("find(7)", x -> x.find(7), 512);
        Scene last = scene(x -> {
            Scenes.twelve(x);
            x.size(11, 512);
            x.write(11, 511, 999999);
            x.write(10, 99, 0);
        });
        last.gives("find(999999), the last ADDRESS of the last VOLUME", x -> x.find(999999), 512 * 11 + 511);
        last.gives("find(0), one that is MAPPED", x -> x.find(0), 512 * 10 + 99);
        last.gives("find(9), the first of two VOLUMES", x -> x.find(9), 5);

        Scene behind = scene(x -> {
            Scenes.parts(x, 14);
            x.write(0, 511, 2);
        });
        behind.gives("find(2), behind 511 that are MAPPED", x -> x.find(2), 511);
        behind.gives("times(0, 2)", x -> x.times(0, 2), 1);

        edges.promise(44, "NONE: there is none.");
        for (int value : new int[] {Integer.MIN_VALUE, -1, 0, 4, 999999, 1000000, Integer.MAX_VALUE}) {
            plain.none("find(" + value + ")", x -> x.find(value));
        }
        fresh.none("find(0)", x -> x.find(0));
        scene(x -> {
            Scenes.plain(x);
            x.wipe(1, 0);
        }).none("find(7), WIPED", x -> x.find(7));
    }

    private void times() {
        edges.promise(45, "How many ADDRESSES of a VOLUME are MAPPED with that VALUE.");
        plain.gives("times(0, 5)", x -> x.times(0, 5), 3);
        plain.gives("times(2, 6)", x -> x.times(2, 6), 1);
        plain.gives("times(1, 5)", x -> x.times(1, 5), 0);
        plain.gives("times(0, 0), none is MAPPED with it", x -> x.times(0, 0), 0);
        fullParts.gives("times(0, 1), all", x -> x.times(0, 1), 512);
        for (int value : new int[] {Integer.MIN_VALUE, -1, 999999, 1000000, Integer.MAX_VALUE}) {
            plain.gives("times(0, " + value + "), none is MAPPED with it", x -> x.times(0, value), 0);
        }
        Scene zero = scene(x -> {
            x.make(5, 5);
            x.write(0, 0, 0);
            x.write(0, 4, 0);
            x.write(0, 3, 999999);
        });
        zero.gives("times(0, 0)", x -> x.times(0, 0), 2);
        zero.gives("times(0, 999999)", x -> x.times(0, 999999), 1);

        edges.promise(45, "NONE for others.");
        for (int volume : Scenes.NO_VOLUMES) {
            plain.none("times(" + volume + ", 5)", x -> x.times(volume, 5));
            plain.none("times(" + volume + ", -1)", x -> x.times(volume, -1));
        }
    }

    private void counted() {
        edges.promise(46, "How many BLOCKS have that COUNT (1 or more).");
        plain.gives("counted(1)", x -> x.counted(1), 5);
        plain.gives("counted(2)", x -> x.counted(2), 0);
        fullBlocks.gives("counted(1)", x -> x.counted(1), 96);
        fullParts.gives("counted(1035)", x -> x.counted(1035), 1);
        Scene spoilt = scene(x -> {
            Scenes.plain(x);
            x.spoil(0, 999);
        });
        spoilt.gives("counted(999)", x -> x.counted(999), 1);
        spoilt.gives("counted(1)", x -> x.counted(1), 4);
        plain.gives("counted(MAX_VALUE)", x -> x.counted(Integer.MAX_VALUE), 0);
        fresh.gives("counted(1)", x -> x.counted(1), 0);

        edges.promise(46, "NONE for others.");
        for (int count : new int[] {Integer.MIN_VALUE, -1, 0}) {
            plain.none("counted(" + count + ")", x -> x.counted(count));
            fresh.none("counted(" + count + ")", x -> x.counted(count));
        }
    }

    private void hottest() {
        edges.promise(47, "The BLOCK with the greatest COUNT, of like ones the least number.");
        plain.gives("hottest(), all like", ThinVolumes::hottest, 0);
        scene(x -> {
            Scenes.blocks(x, 96);
            x.spoil(95, 2);
        }).gives("hottest(), the last one", ThinVolumes::hottest, 95);
        scene(x -> {
            Scenes.blocks(x, 96);
            x.spoil(95, 2);
            x.spoil(94, 2);
        }).gives("hottest(), two like ones", ThinVolumes::hottest, 94);
        scene(x -> {
            Scenes.blocks(x, 3);
            x.wipe(0, 0);
        }).gives("hottest(), 0 is free", ThinVolumes::hottest, 1);

        edges.promise(47, "NONE: all are free.");
        fresh.none("hottest()", ThinVolumes::hottest);
        scene(x -> {
            Scenes.blocks(x, 3);
            x.free(0);
        }).none("hottest(), free again", ThinVolumes::hottest);
    }

    private void leaves() {
        edges.promise(48, "How many LEAVES have a BLOCK.");
        plain.gives("leaves(0), one LEAF of two VOLUMES", x -> x.leaves(0), 1);
        fullBlocks.gives("leaves(95), the last one", x -> x.leaves(95), 1);
        fullParts.gives("leaves(0), often in each", x -> x.leaves(0), 128 + 11);
        scene(x -> {
            Scenes.plain(x);
            x.spoil(0, 999);
        }).gives("leaves(0), COUNTS are not looked at", x -> x.leaves(0), 1);

        edges.promise(48, "NONE: it is free, and for others.");
        for (int block : new int[] {Integer.MIN_VALUE, -1, 96, Integer.MAX_VALUE}) {
            fullBlocks.none("leaves(" + block + ")", x -> x.leaves(block));
        }
        plain.none("leaves(5), free", x -> x.leaves(5));
        plain.none("leaves(95), free", x -> x.leaves(95));
    }

    private void parts() {
        edges.promise(49, "How many PARTS a VOLUME has: 0 LEAVES, 1 TWIGS, 2 TRUNKS (a PART in two places is one).");
        int[] want = {2, 2, 1};
        int[] most = {64, 8, 1};
        int[] folded = {1, 1, 1};
        Scene fold = scene(x -> {
            Scenes.parts(x, 14);
            x.fold();
        });
        for (int what = 0; what <= 2; what++) {
            int asked = what;
            plain.gives("parts(0, " + what + ")", x -> x.parts(0, asked), want[what]);
            plain.gives("parts(2, " + what + ")", x -> x.parts(2, asked), want[what]);
            fullParts.gives("parts(0, " + what + "), as many as can be", x -> x.parts(0, asked), most[what]);
            fullParts.gives("parts(3, " + what + "), empty", x -> x.parts(3, asked), 0);
            fold.gives("parts(0, " + what + "), in all places", x -> x.parts(0, asked), folded[what]);
        }

        edges.promise(49, "NONE for others.");
        for (int what : NO_THIRDS) plain.none("parts(0, " + what + ")", x -> x.parts(0, what));
        for (int volume : Scenes.NO_VOLUMES) {
            for (int what = 0; what <= 2; what++) {
                int asked = what;
                plain.none("parts(" + volume + ", " + what + ")", x -> x.parts(volume, asked));
            }
        }
    }

    private void staged() {
        edges.promise(50, "Rows of THE STAGE: the i-th: 0 the ADDRESS, 1 the VALUE (NONE).");
        int[][] want = {{3, 30}, {4, -1}};
        for (int i = 0; i < 2; i++) {
            int its = i;
            plain.gives("staged(" + i + ", 0)", x -> x.staged(its, 0), want[i][0]);
            plain.gives("staged(" + i + ", 1)", x -> x.staged(its, 1), want[i][1]);
        }
        Scene sixteen = scene(x -> {
            for (int i = 0; i < 16; i++) x.stage(511 - i, i);
        });
        sixteen.gives("staged(15, 0), the last", x -> x.staged(15, 0), 496);
        sixteen.gives("staged(15, 1)", x -> x.staged(15, 1), 15);

        edges.promise(50, "-2 if there is none such, and for others.");
        for (int i : new int[] {Integer.MIN_VALUE, -2, -1, 2, 3, 16, Integer.MAX_VALUE}) {
            plain.gives("staged(" + i + ", 0)", x -> x.staged(i, 0), -2);
            plain.gives("staged(" + i + ", 1)", x -> x.staged(i, 1), -2);
        }
        for (int what : NO_HALVES) plain.gives("staged(0, " + what + ")", x -> x.staged(0, what), -2);
        sixteen.gives("staged(16, 0)", x -> x.staged(16, 0), -2);
        fresh.gives("staged(0, 0) of none", x -> x.staged(0, 0), -2);
        scene(x -> {
            Scenes.plain(x);
            x.commit(0);
        }).gives("staged(0, 0), DONE", x -> x.staged(0, 0), -2);
    }

    private void stream() {
        edges.promise(51, "Rows of THE STREAM: the i-th: 0 the ADDRESS, 1 the VALUE (NONE).");
        int[][] want = {{0, -1}, {8, 5}, {9, 5}, {10, 5}, {99, 6}};
        for (int i = 0; i < 5; i++) {
            int its = i;
            plain.gives("stream(" + i + ", 0)", x -> x.stream(its, 0), want[i][0]);
            plain.gives("stream(" + i + ", 1)", x -> x.stream(its, 1), want[i][1]);
        }
        Scene most = scene(x -> {
            Scenes.parts(x, 14);
            x.send(3, 0);
        });
        most.gives("stream(511, 0), the last", x -> x.stream(511, 0), 511);
        most.gives("stream(511, 1)", x -> x.stream(511, 1), 1);

        edges.promise(51, "-2 if there is none such, and for others.");
        for (int i : new int[] {Integer.MIN_VALUE, -2, -1, 5, 6, 512, Integer.MAX_VALUE}) {
            plain.gives("stream(" + i + ", 0)", x -> x.stream(i, 0), -2);
            plain.gives("stream(" + i + ", 1)", x -> x.stream(i, 1), -2);
        }
        for (int what : NO_HALVES) plain.gives("stream(0, " + what + ")", x -> x.stream(0, what), -2);
        most.gives("stream(512, 0)", x -> x.stream(512, 0), -2);
        fresh.gives("stream(0, 0) of none", x -> x.stream(0, 0), -2);
        scene(x -> {
            Scenes.plain(x);
            x.send(0, 2);
        }).gives("stream(0, 0), the next one has none", x -> x.stream(0, 0), -2);
    }

    private void children() {
        edges.promise(52, "VOLUMES whose PARENT it is (bits).");
        plain.gives("children(0)", x -> x.children(0), 4);
        plain.gives("children(1), none", x -> x.children(1), 0);
        plain.gives("children(2), none", x -> x.children(2), 0);
        Scene eleven = scene(x -> {
            x.make(5, 5);
            for (int volume = 1; volume < 12; volume++) x.take(0, false);
        });
        eleven.gives("children(0), all others", x -> x.children(0), 4094);
        eleven.gives("children(11)", x -> x.children(11), 0);
        Scene chain = scene(x -> {
            x.make(5, 5);
            x.take(0, false);
            x.take(1, false);
            x.take(2, false);
            x.free(1);
        });
        chain.gives("children(0), of the one that was let go", x -> x.children(0), 4);
        chain.gives("children(2)", x -> x.children(2), 8);

        edges.promise(52, "NONE for others.");
        for (int volume : Scenes.NO_VOLUMES) plain.none("children(" + volume + ")", x -> x.children(volume));
        chain.none("children(1), let go", x -> x.children(1));
    }

    private void nearest() {
        // 1, 2 from 0; 3 from 1; 4 from 3; 5 from 2; 6 made.
        Scene tree = scene(x -> {
            x.make(5, 5);
            int[] parents = {0, 0, 1, 3, 2};
            for (int parent : parents) x.take(parent, false);
            x.make(5, 5);
        });
        edges.promise(53, "NEAREST.");
        int[][] want = {{4, 5, 0}, {5, 4, 0}, {4, 1, 1}, {1, 4, 1}, {4, 3, 3}, {3, 4, 3}, {0, 5, 0}, {4, 4, 4}, {6, 6, 6}, {1, 2, 0}};
        for (int[] w : want) tree.gives("nearest(" + w[0] + ", " + w[1] + ")", x -> x.nearest(w[0], w[1]), w[2]);
        Scene chain = scene(x -> {
            x.make(1, 0);
            for (int volume = 0; volume < 11; volume++) x.take(volume, false);
        });
        chain.gives("nearest(0, 11), eleven PARENTS above", x -> x.nearest(0, 11), 0);
        chain.gives("nearest(11, 0)", x -> x.nearest(11, 0), 0);
        chain.gives("nearest(11, 10)", x -> x.nearest(11, 10), 10);

        edges.promise(53, "NONE: there is none, and for others.");
        for (int volume = 0; volume < 6; volume++) {
            int its = volume;
            tree.none("nearest(6, " + volume + ")", x -> x.nearest(6, its));
            tree.none("nearest(" + volume + ", 6)", x -> x.nearest(its, 6));
        }
        for (int volume : Scenes.NO_VOLUMES) {
            plain.none("nearest(" + volume + ", 0)", x -> x.nearest(volume, 0));
            plain.none("nearest(0, " + volume + ")", x -> x.nearest(0, volume));
            plain.none("nearest(" + volume + ", " + volume + ")", x -> x.nearest(volume, volume));
        }
        scene(x -> {
            x.make(5, 5);
            x.take(0, false);
            x.take(0, false);
            x.free(0);
        }).none("nearest(1, 2), their PARENT was let go", x -> x.nearest(1, 2));
    }

    private void run() {
        edges.promise(54, "Of the i-th RUN of a VOLUME: 0 its first ADDRESS, 1 its first BLOCK, 2 how long.");
        int[][] want = {{8, 0, 3}, {99, 3, 1}};
        for (int i = 0; i < 2; i++) {
            for (int what = 0; what <= 2; what++) {
                int its = i;
                int asked = what;
                plain.gives("run(0, " + i + ", " + what + ")", x -> x.run(0, its, asked), want[i][what]);
            }
        }
        fullBlocks.gives("run(0, 0, 2), across LEAVES and TWIGS", x -> x.run(0, 0, 2), 96);
        fullParts.gives("run(0, 511, 0), the same BLOCK is not the next one", x -> x.run(0, 511, 0), 511);
        fullParts.gives("run(0, 511, 2)", x -> x.run(0, 511, 2), 1);
        Scene turned = scene(x -> {
            x.make(4, 4);
            for (int address = 3; address >= 0; address--) x.write(0, address, 1);
            x.make(4, 4);
            x.share(0, 1, 1, 0, 1);
            x.share(0, 0, 1, 1, 1);
            x.share(0, 0, 1, 3, 1);
        });
        turned.gives("of(0, 11), falling BLOCKS", x -> x.of(0, 11), 4);
        turned.gives("of(1, 11), one ADDRESS between", x -> x.of(1, 11), 2);
        turned.gives("run(1, 0, 2)", x -> x.run(1, 0, 2), 2);
        Scene last = scene(x -> {
            x.make(512, 512);
            x.fill(0, 510, 2, 1);
        });
        last.gives("run(0, 0, 2), up to SIZE", x -> x.run(0, 0, 2), 2);
        Scene round = scene(x -> {
            x.make(512, 512);
            x.write(0, 511, 1);
            x.write(0, 0, 1);
        });
        round.gives("run(0, 1, 2), the next BLOCK is at 0, behind no ADDRESS", x -> x.run(0, 1, 2), 1);
        round.gives("of(0, 11)", x -> x.of(0, 11), 2);

        edges.promise(54, "NONE: there is none, and for others.");
        for (int i : new int[] {Integer.MIN_VALUE, -2, -1, 2, 3, 512, Integer.MAX_VALUE}) {
            for (int what = 0; what <= 2; what++) {
                int asked = what;
                plain.none("run(0, " + i + ", " + what + ")", x -> x.run(0, i, asked));
                round.none("run(0, " + i + ", " + what + "), the last ADDRESS is MAPPED", x -> x.run(0, i, asked));
            }
        }
        for (int what : NO_THIRDS) plain.none("run(0, 0, " + what + ")", x -> x.run(0, 0, what));
        for (int volume : Scenes.NO_VOLUMES) plain.none("run(" + volume + ", 0, 0)", x -> x.run(volume, 0, 0));
        fullParts.none("run(3, 0, 0), empty", x -> x.run(3, 0, 0));
        fullParts.none("run(0, 512, 0)", x -> x.run(0, 512, 0));
    }

    private void next() {
        edges.promise(55, "The first ADDRESS that is MAPPED from an ADDRESS on.");
        int[][] want = {{0, 8}, {7, 8}, {8, 8}, {9, 9}, {10, 10}, {11, 99}, {63, 99}, {64, 99}, {98, 99}, {99, 99}};
        for (int[] w : want) plain.gives("next(0, " + w[0] + ")", x -> x.next(0, w[0]), w[1]);
        Scene last = scene(x -> {
            x.make(512, 512);
            x.write(0, 511, 0);
        });
        for (int address : new int[] {0, 447, 448, 503, 504, 511}) {
            last.gives("next(0, " + address + ")", x -> x.next(0, address), 511);
        }

        edges.promise(55, "NONE: none, and for others.");
        plain.none("next(1, 1)", x -> x.next(1, 1));
        plain.none("next(1, 19)", x -> x.next(1, 19));
        for (int address : new int[] {Integer.MIN_VALUE, -1, 100, 511, 512, Integer.MAX_VALUE}) {
            plain.none("next(0, " + address + ")", x -> x.next(0, address));
        }
        last.none("next(0, 512)", x -> x.next(0, 512));
        last.none("next(0, -1)", x -> x.next(0, -1));
        fullParts.none("next(3, 0), empty", x -> x.next(3, 0));
        for (int volume : Scenes.NO_VOLUMES) plain.none("next(" + volume + ", 0)", x -> x.next(volume, 0));
    }

    private void needs(Scene scene, int volume, int address, int value, int blocks, int parts) {
        String call = "needs(" + volume + ", " + address + ", " + value;
        scene.gives(call + ", 0)", x -> x.needs(volume, address, value, 0), blocks);
        scene.gives(call + ", 1)", x -> x.needs(volume, address, value, 1), parts);
    }

    private void needs() {
        edges.promise(56, "How many BLOCKS a WRITTEN VALUE at an ADDRESS would make more than there are (what 0; 0 at least), PARTS (1).");
        needs(plain, 1, 0, 8, 0, 0);
        needs(plain, 1, 1, 8, 1, 0);
        needs(plain, 1, 8, 8, 1, 1);
        needs(plain, 1, 19, 0, 1, 1);
        needs(plain, 0, 8, 999999, 1, 3);
        needs(plain, 0, 0, 1, 1, 3);
        needs(fullParts, 2, 1, 1, 0, 0);
        Scene alike = scene(x -> {
            Scenes.plain(x);
            x.like(1);
        });
        needs(alike, 1, 0, 5, 0, 0);
        needs(alike, 1, 0, 7, 0, 0);
        needs(alike, 1, 9, 6, 0, 1);
        needs(alike, 1, 9, 99, 1, 1);
        needs(alike, 0, 8, 5, 0, 3);
        Scene wide = scene(x -> {
            x.make(512, 512);
            x.write(0, 0, 1);
        });
        needs(wide, 0, 64, 1, 1, 2);
        needs(wide, 0, 511, 1, 1, 2);

        edges.promise(56, "NONE: it can't be, and for others.");
        for (int what : NO_HALVES) plain.none("needs(1, 0, 8, " + what + ")", x -> x.needs(1, 0, 8, what));
        for (int volume : Scenes.NO_VOLUMES) needs(plain, volume, 0, 8, -1, -1);
        for (int address : new int[] {Integer.MIN_VALUE, -1, 20, 512, Integer.MAX_VALUE}) needs(plain, 1, address, 8, -1, -1);
        for (int value : Scenes.NO_VALUES) needs(plain, 1, 0, value, -1, -1);
    }

    private void needsOfWhatCannotBe() {
        edges.promise(56, "NONE: it can't be, and for others.");
        needs(plain, 2, 8, 1, -1, -1);
        needs(scene(x -> Scenes.blocks(x, 95)), 1, 0, 1, 1, 3);
        needs(fullBlocks, 1, 0, 1, -1, -1);
        needs(fullBlocks, 0, 95, 9, 0, 0);
        needs(scene(x -> Scenes.parts(x, 3)), 3, 0, 1, 0, 3);
        needs(scene(x -> Scenes.parts(x, 2)), 3, 0, 1, -1, -1);
        needs(scene(x -> Scenes.parts(x, 1)), 2, 88, 1, 0, 1);
        needs(fullParts, 2, 88, 1, -1, -1);
        Scene quota = scene(x -> {
            Scenes.plain(x);
            x.quota(1, 1);
        });
        needs(quota, 1, 0, 8, 0, 0);
        needs(quota, 1, 1, 8, -1, -1);
        Scene reserved = scene(x -> {
            Scenes.blocks(x, 10);
            x.reserve(0, 96);
        });
        needs(reserved, 0, 10, 1, 1, 0);
        needs(reserved, 0, 16, 1, 1, 1);
        needs(reserved, 1, 0, 1, -1, -1);
        Scene one = scene(x -> {
            Scenes.blocks(x, 10);
            x.reserve(0, 95);
        });
        needs(one, 1, 0, 1, 1, 3);
        Scene spoilt = scene(x -> {
            Scenes.plain(x);
            x.spoil(4, 2);
        });
        needs(spoilt, 0, 0, 1, -1, -1);
    }

    private void saved() {
        edges.promise(57, "MAPPED ADDRESSES in all, as a float, divided by BLOCKS that aren't free, as a float: its bits.");
        plain.gives("saved(), 9 by 5", ThinVolumes::saved, Float.floatToIntBits(9f / 5f));
        fullBlocks.gives("saved(), 1", ThinVolumes::saved, Float.floatToIntBits(1f));
        fullParts.gives("saved(), 1035", ThinVolumes::saved, Float.floatToIntBits(1035f));
        scene(x -> {
            Scenes.parts(x, 14);
            for (int volume = 4; volume < 12; volume++) x.take(0, true);
        }).gives("saved(), 5120", ThinVolumes::saved, Float.floatToIntBits(5120f));
        scene(x -> {
            Scenes.blocks(x, 3);
            x.take(0, true);
            x.write(1, 0, 1);
        }).gives("saved(), 7 by 4", ThinVolumes::saved, Float.floatToIntBits(7f / 4f));
        scene(x -> {
            Scenes.blocks(x, 7);
            x.share(0, 0, 1, 0, 3);
        }).gives("saved(), 10 by 7", ThinVolumes::saved, Float.floatToIntBits(10f / 7f));

        edges.promise(57, "0 without any.");
        fresh.gives("saved()", ThinVolumes::saved, 0);
        scene(x -> x.make(5, 5)).gives("saved(), an empty VOLUME", ThinVolumes::saved, 0);
        scene(x -> {
            x.make(5, 5);
            x.write(0, 0, 1);
            x.wipe(0, 0);
        }).gives("saved(), WIPED", ThinVolumes::saved, 0);
    }

    private void full() {
        edges.promise(58, "Of 1000: USED of a VOLUME as a double, times 1000, divided by SIZE as a double, as an int (toward 0).");
        int[][] want = {{1, 3, 333}, {2, 3, 666}, {3, 3, 1000}, {1, 1, 1000}, {1, 512, 1}, {0, 512, 0}, {0, 1, 0}, {1, 7, 142}, {6, 7, 857}, {36, 37, 972}, {64, 65, 984}};
        for (int[] w : want) {
            scene(x -> {
                x.make(w[1], 512);
                if (w[0] > 0) x.fill(0, 0, w[0], 5);
            }).gives("full(0), " + w[0] + " of " + w[1], x -> x.full(0), w[2]);
        }
        fullParts.gives("full(0)", x -> x.full(0), 1000);

        edges.promise(58, "NONE for others.");
        for (int volume : Scenes.NO_VOLUMES) plain.none("full(" + volume + ")", x -> x.full(volume));
    }

    private void mean(String values, Scene.Made made, double want) {
        Scene scene = scene(made);
        edges.due("mean(0), " + values, scene.anew().mean(0), Double.doubleToLongBits(want));
        scene.gives("mean(0), " + values + ", as an int", x -> (int) x.mean(0), (int) Double.doubleToLongBits(want));
    }

    private void mean() {
        edges.promise(59, "Mean VALUE of what is MAPPED of a VOLUME, as doubles: its bits.");
        mean("999999 alone, of five ADDRESSES", x -> {
            x.make(5, 5);
            x.write(0, 4, 999999);
        }, 999999.0);
        mean("1, 0, 0", x -> {
            x.make(5, 5);
            x.write(0, 0, 1);
            x.write(0, 1, 0);
            x.write(0, 2, 0);
        }, 1.0 / 3.0);
        mean("999999 and 0", x -> {
            x.make(5, 5);
            x.write(0, 0, 999999);
            x.write(0, 1, 0);
        }, 999999.0 / 2.0);
        mean("512 times 999999", x -> {
            x.make(512, 512);
            x.like(1);
            for (int from = 0; from < 512; from += 64) x.fill(0, from, 64, 999999);
        }, 999999.0);
        mean("0 alone", x -> {
            x.make(1, 1);
            x.write(0, 0, 0);
        }, 0.0);
        mean("1 of 512", x -> {
            x.make(512, 512);
            x.like(1);
            for (int from = 0; from < 512; from += 64) x.fill(0, from, 64, 0);
            x.write(0, 511, 1);
        }, 1.0 / 512.0);

        edges.promise(59, "0: nothing is, and for others.");
        fullParts.gives("mean(3), nothing is", x -> x.mean(3) == 0 ? 1 : 0, 1);
        for (int volume : Scenes.NO_VOLUMES) plain.gives("mean(" + volume + ")", x -> x.mean(volume) == 0 ? 1 : 0, 1);
    }

    private void digest() {
        edges.promise(60, "VALUES READ of a VOLUME, 0 .. SIZE less 1, by 31 each time: h is 31 times h and the VALUE (an int, going round), from 0.");
        int h = 0;
        for (int address = 0; address < 100; address++) h = 31 * h + (address == 99 ? 6 : address >= 8 && address <= 10 ? 5 : 0);
        plain.gives("digest(0)", x -> x.digest(0), h);
        plain.gives("digest(2), READ ONLY", x -> x.digest(2), h);
        int seven = 7;
        for (int i = 0; i < 19; i++) seven *= 31;
        plain.gives("digest(1), 7 and 19 times nothing, going round", x -> x.digest(1), seven);
        scene(x -> {
            x.make(1, 1);
            x.write(0, 0, 999999);
        }).gives("digest(0), of SIZE 1", x -> x.digest(0), 999999);
        scene(x -> {
            x.make(2, 2);
            x.write(0, 0, 3);
            x.write(0, 1, 4);
        }).gives("digest(0), of SIZE 2", x -> x.digest(0), 97);
        int all = 0;
        for (int i = 0; i < 512; i++) all = 31 * all + 1;
        fullParts.gives("digest(0), of SIZE 512", x -> x.digest(0), all);
        fullParts.gives("digest(3), nothing is MAPPED", x -> x.digest(3), 0);

        edges.promise(60, "0 for others.");
        for (int volume : Scenes.NO_VOLUMES) plain.gives("digest(" + volume + ")", x -> x.digest(volume), 0);
    }
}
