/** Edges of promises 21, 22, 24 to 28, 61 to 63: folding, spoiling, mending, laying close, steps, the image. */
final class PoolEdges {
    private final Edges edges;
    private final Scene fresh;
    private final Scene plain;
    private final Scene spoilt;

    PoolEdges(Edges edges) {
        this.edges = edges;
        fresh = new Scene(edges, x -> { });
        plain = new Scene(edges, Scenes::plain);
        spoilt = new Scene(edges, PoolEdges::spoilt);
    }

    void look() {
        merge();
        fold();
        like();
        spoil();
        mend();
        close();
        undo();
        undoOfTheLatest();
        image();
        back();
        steps();
    }

    private Scene scene(Scene.Made made) {
        return new Scene(edges, made);
    }

    private static void spoilt(ThinVolumes x) {
        Scenes.plain(x);
        x.spoil(4, 2);
    }

    private void merge() {
        edges.promise(21, "LIKE ONES folded: how many BLOCKS are free by it.");
        fresh.does("merge() of none", ThinVolumes::merge, 0);
        ThinVolumes y = plain.does("merge(), three are like", ThinVolumes::merge, 2);
        edges.due("ofBlock(0, 1)", y.ofBlock(0, 1), 3);
        edges.due("block(2, 10), READ ONLY", y.block(2, 10), 0);
        edges.due("block(0, 99), unlike", y.block(0, 99), 3);
        edges.due("of(0, 3)", y.of(0, 3), 4);
        edges.due("merge() again", y.merge(), 0);
        y = scene(x -> Scenes.blocks(x, 96)).does("merge(), all are like", ThinVolumes::merge, 95);
        edges.due("block(0, 95)", y.block(0, 95), 0);
        scene(x -> {
            x.make(5, 5);
            x.write(0, 0, 1);
            x.write(0, 1, 1);
            x.wipe(0, 0);
        }).does("merge(), a free one isn't like", ThinVolumes::merge, 0);
        scene(x -> {
            x.make(5, 5);
            x.write(0, 0, 0);
            x.write(0, 1, 999999);
            x.write(0, 2, 0);
        }).does("merge(), VALUES 0, 999999, 0", ThinVolumes::merge, 1);

        edges.promise(21, "NONE with a WRONG COUNT.");
        spoilt.none("merge()", ThinVolumes::merge);
        scene(x -> {
            spoilt(x);
            x.spoil(4, 1);
        }).does("merge(), the COUNT was told right again", ThinVolumes::merge, 2);
        scene(x -> {
            spoilt(x);
            x.mend();
        }).does("merge(), MENDED", ThinVolumes::merge, 2);
    }

    private void fold() {
        edges.promise(22, "PARTS folded: how many PARTS are free by it.");
        fresh.does("fold() of none", ThinVolumes::fold, 0);
        plain.does("fold(), none are like", ThinVolumes::fold, 0);
        // 128 LEAVES, 16 TWIGS, two TRUNKS: one of each stays.
        ThinVolumes y = scene(x -> Scenes.parts(x, 14)).does("fold(), all are like", ThinVolumes::fold, 143);
        edges.due("is(2)", y.is(2), 3);
        edges.due("of(1, 4)", y.of(1, 4), 0);
        edges.due("ofPart(2, 1)", y.ofPart(2, 1), 8);
        edges.due("of(1, 3)", y.of(1, 3), 512);
        edges.due("fold() again", y.fold(), 0);
        scene(x -> {
            x.make(512, 5);
            x.like(1);
            x.write(0, 0, 1);
            x.write(0, 9, 1);
        }).does("fold(), the same BLOCK in other places", ThinVolumes::fold, 0);
        Scene kinds = scene(x -> {
            x.make(512, 5);
            x.write(0, 0, 1);
            x.write(0, 1, 2);
            x.write(0, 64, 3);
        });
        edges.due("place(1, 0) of a TWIG", kinds.anew().place(1, 0), 2);
        edges.due("place(4, 0) of a LEAF", kinds.anew().place(4, 0), 2);
        kinds.does("fold(), like numbers in a TWIG and in a LEAF", ThinVolumes::fold, 0);
        scene(x -> {
            x.make(512, 5);
            x.write(0, 0, 1);
            x.make(9, 9);
            x.graft(0, 0, 1, 1, 0, 1);
        }).does("fold(), TWIGS and TRUNKS alone", ThinVolumes::fold, 2);

        Scene lesser = scene(x -> {
            x.make(9, 9);
            x.make(9, 9);
            x.like(1);
            x.write(1, 0, 1);
            x.write(0, 0, 1);
        });
        edges.due("of(0, 4), the TRUNK of another VOLUME has a lesser number", lesser.does("fold()", ThinVolumes::fold, 3).of(0, 4), 0);

        edges.promise(22, "NONE with a WRONG COUNT.");
        spoilt.none("fold()", ThinVolumes::fold);
        scene(x -> {
            spoilt(x);
            x.spoil(4, 1);
        }).does("fold(), the COUNT was told right again", ThinVolumes::fold, 0);
    }

    private void like() {
        edges.promise(24, "LIKE: true.");
        edges.due("is(4)", plain.yes("like(0), as it is", x -> x.like(0)).is(4), 0);
        edges.due("is(4)", plain.yes("like(1)", x -> x.like(1)).is(4), 1);
        Scene one = scene(x -> {
            Scenes.plain(x);
            x.like(1);
        });
        edges.due("is(4)", one.yes("like(0)", x -> x.like(0)).is(4), 0);
        edges.due("is(4)", one.yes("like(1), as it is", x -> x.like(1)).is(4), 1);

        edges.promise(24, "False for others.");
        for (int like : new int[] {Integer.MIN_VALUE, -1, 2, Integer.MAX_VALUE}) {
            plain.no("like(" + like + ")", x -> x.like(like));
            one.no("like(" + like + ")", x -> x.like(like));
        }
    }

    private void spoil() {
        Scene full = scene(x -> Scenes.blocks(x, 96));
        edges.promise(25, "SPOILT: true.");
        edges.due("ofBlock(0, 1)", plain.yes("spoil(0, 999)", x -> x.spoil(0, 999)).ofBlock(0, 1), 999);
        ThinVolumes y = plain.yes("spoil(0, 1), as it is", x -> x.spoil(0, 1));
        edges.due("wrong()", y.wrong(), -1);
        y = full.yes("spoil(95, 2), the last BLOCK", x -> x.spoil(95, 2));
        edges.due("wrong()", y.wrong(), 95);
        spoilt.yes("spoil(4, 1), right again", x -> x.spoil(4, 1));
        spoilt.yes("spoil(3, 5), while another one is WRONG", x -> x.spoil(3, 5));

        edges.promise(25, "False for others.");
        for (int count : new int[] {Integer.MIN_VALUE, -1, 0, 1000, Integer.MAX_VALUE}) {
            plain.no("spoil(0, " + count + ")", x -> x.spoil(0, count));
            spoilt.no("spoil(4, " + count + ")", x -> x.spoil(4, count));
        }
        for (int block : new int[] {Integer.MIN_VALUE, -1, 96, Integer.MAX_VALUE}) {
            full.no("spoil(" + block + ", 5)", x -> x.spoil(block, 5));
        }
        plain.no("spoil(5, 5), the first that is free", x -> x.spoil(5, 5));
        plain.no("spoil(95, 5), free", x -> x.spoil(95, 5));
        scene(x -> {
            Scenes.plain(x);
            x.wipe(1, 0);
        }).no("spoil(4, 5), free again", x -> x.spoil(4, 5));
    }

    private void mend() {
        edges.promise(26, "MENDED: how many COUNTS were WRONG.");
        fresh.does("mend() of none", ThinVolumes::mend, 0);
        plain.does("mend(), none is WRONG", ThinVolumes::mend, 0);
        ThinVolumes y = spoilt.does("mend(), one is", ThinVolumes::mend, 1);
        edges.due("ofBlock(4, 1)", y.ofBlock(4, 1), 1);
        edges.due("wrong()", y.wrong(), -1);
        edges.yes("then all can be done", y.write(1, 0, 9));
        Scene all = scene(x -> {
            Scenes.blocks(x, 96);
            for (int block = 0; block < 96; block++) x.spoil(block, 999);
        });
        all.does("mend(), all BLOCKS are", ThinVolumes::mend, 96);
        scene(x -> {
            Scenes.plain(x);
            x.spoil(0, 1);
        }).does("mend(), told as it is", ThinVolumes::mend, 0);
        Scene low = scene(x -> {
            Scenes.plain(x);
            x.graft(0, 8, 0, 1, 5, 0);
            x.spoil(0, 1);
        });
        edges.due("ofBlock(0, 1)", low.does("mend(), one that was too low", ThinVolumes::mend, 1).ofBlock(0, 1), 2);
    }

    private void close() {
        edges.promise(27, "LAID CLOSE: how many BLOCKS have another number.");
        fresh.does("close() of none", ThinVolumes::close, 0);
        plain.does("close(), all lie close", ThinVolumes::close, 0);
        scene(x -> Scenes.blocks(x, 96)).does("close(), all are used", ThinVolumes::close, 0);
        Scene first = scene(x -> {
            Scenes.blocks(x, 96);
            x.write(0, 95, 7);
            x.wipe(0, 0);
        });
        ThinVolumes y = first.does("close(), BLOCK 0 is free", ThinVolumes::close, 95);
        edges.due("block(0, 95)", y.block(0, 95), 94);
        edges.due("ofBlock(94, 0)", y.ofBlock(94, 0), 7);
        edges.due("ofBlock(95, 0)", y.ofBlock(95, 0), -1);
        scene(x -> {
            Scenes.blocks(x, 96);
            x.wipe(0, 95);
        }).does("close(), BLOCK 95 is free", ThinVolumes::close, 0);
        Scene middle = scene(x -> {
            Scenes.blocks(x, 96);
            x.wipe(0, 93);
        });
        edges.due("block(0, 95)", middle.does("close(), BLOCK 93 is free", ThinVolumes::close, 2).block(0, 95), 94);
        // PARTS 0 .. 2 are free, BLOCK 0 is of the second one: PARTS alone have other numbers.
        Scene parts = scene(x -> {
            x.make(9, 9);
            x.make(9, 9);
            x.write(0, 0, 1);
            x.graft(0, 0, 0, 1, 0, 0);
            x.free(0);
        });
        edges.due("of(1, 4)", parts.anew().of(1, 4), 3);
        y = parts.does("close(), PARTS alone", ThinVolumes::close, 0);
        edges.due("of(1, 4)", y.of(1, 4), 0);
        edges.due("path(1, 0, 2)", y.path(1, 0, 2), 2);
        edges.due("block(1, 0), BLOCK 0 in a PART with another number", y.block(1, 0), 0);
        edges.due("wrong()", y.wrong(), -1);
        // LEAF 2 of 0 .. 5 is let go: a TWIG has the number of a LEAF then, and a LEAF that of a TWIG.
        Scene kinds = scene(x -> {
            x.make(512, 512);
            for (int address : new int[] {0, 8, 64}) x.write(0, address, address);
            x.wipe(0, 0);
        });
        y = kinds.does("close(), of other kinds", ThinVolumes::close, 2);
        int[] want = {2, 1, 0, 1, 0, -1};
        for (int part = 0; part < 6; part++) edges.due("ofPart(" + part + ", 0)", y.ofPart(part, 0), want[part]);
        edges.due("read(0, 8)", y.read(0, 8), 8);
        edges.due("read(0, 64)", y.read(0, 64), 64);
        edges.due("wrong()", y.wrong(), -1);
        spoilt.none("close(), a COUNT is WRONG", ThinVolumes::close);
    }

    /** So many STEPS: the first makes VOLUME 0, each other one writes one ADDRESS more. */
    private static void steps(ThinVolumes x, int steps) {
        x.make(100, 100);
        for (int i = 0; i < steps - 1; i++) x.write(0, i, i);
    }

    private void undo() {
        edges.promise(28, "The latest STEP is taken back: how many can be yet.");
        int[][] want = {{1, 0}, {2, 1}, {15, 14}, {16, 15}, {17, 15}, {30, 15}};
        for (int[] w : want) {
            ThinVolumes y = new ThinVolumes();
            steps(y, w[0]);
            edges.due("undo() with " + w[0] + " STEPS", y.undo(), w[1]);
            edges.due("of(0, 3)", y.of(0, 3), w[0] == 1 ? -1 : w[0] - 2);
        }
        for (int n : new int[] {16, 17}) {
            ThinVolumes y = new ThinVolumes();
            steps(y, n);
            for (int left = 15; left >= 0; left--) edges.due("undo() of " + n, y.undo(), left);
            edges.due("is(0), the oldest of 17 stays", y.is(0), n - 16);
            edges.due("one more", y.undo(), -1);
            edges.due("is(0)", y.is(0), n - 16);
        }
        edges.same("all that 16 changed is as ahead of them", Scene.state(x -> {
            steps(x, 17);
            for (int i = 0; i < 16; i++) x.undo();
        }), Scene.state(x -> steps(x, 1)));

        edges.promise(28, "NONE: there is none.");
        fresh.none("undo()", ThinVolumes::undo);
        scene(x -> {
            x.make(5, 5);
            x.undo();
        }).none("undo(), all is taken back", ThinVolumes::undo);
        scene(x -> {
            x.make(0, 5);
            x.stage(1, 1);
            x.image();
            x.back();
            x.like(2);
        }).none("undo() where all was refused or is no STEP", ThinVolumes::undo);
    }

    private void undoOfTheLatest() {
        edges.promise(28, "The latest STEP is taken back: how many can be yet.");
        ThinVolumes y = plain.anew();
        int steps = y.steps();
        y.write(0, 100, 1);
        y.wipe(0, 0);
        y.hold(2, false);
        y.hold(2, false);
        edges.due("steps(), what is refused is none", y.steps(), steps + 1);
        edges.due("undo()", y.undo(), steps);
        edges.due("of(2, 7)", y.of(2, 7), 1);
        y.commit(0);
        y.send(0, 1);
        int rows = y.is(10);
        edges.due("undo()", y.undo(), steps);
        edges.due("is(11), THE STAGE stays as it is", y.is(11), 0);
        edges.due("is(10), THE STREAM, too", y.is(10), rows);
        edges.due("is(8)", y.is(8), 3);
        y.undo();
        y.undo();
        edges.due("is(8), how many were MADE and TAKEN", y.is(8), 2);
        ThinVolumes z = spoilt.anew();
        edges.yes("undo() goes with a WRONG COUNT", z.undo() >= 0);
        edges.due("wrong()", z.wrong(), -1);
    }

    private void image() {
        edges.promise(61, "THE IMAGE is as all is now: VOLUMES.");
        edges.due("image() of none", new ThinVolumes().image(), 0);
        ThinVolumes y = plain.anew();
        int steps = y.steps();
        edges.due("image()", y.image(), 3);
        edges.due("steps(), it is none", y.steps(), steps);
        edges.due("image() of 12", scene(Scenes::twelve).anew().image(), 12);
        edges.due("image() with a WRONG COUNT", spoilt.anew().image(), 3);
        edges.same("image() changes nothing", Scene.state(x -> {
            Scenes.plain(x);
            x.image();
        }), plain.look());
        edges.same("back() to the later of two", Scene.state(x -> {
            Scenes.plain(x);
            x.image();
            x.free(1);
            x.back();
        }), plain.look());
    }

    private void back() {
        edges.promise(62, "BACK to THE IMAGE (it stays): VOLUMES.");
        ThinVolumes y = plain.anew();
        edges.due("back()", y.back(), 2);
        edges.due("is(0)", y.is(0), 2);
        edges.due("steps(), as at image()", y.steps(), 5);
        edges.due("is(11), THE STAGE stays as it is", y.is(11), 2);
        edges.due("is(10), THE STREAM, too", y.is(10), 5);
        y.free(0);
        y.free(1);
        edges.due("is(0)", y.is(0), 0);
        edges.due("back() once more", y.back(), 2);
        edges.due("of(0, 3)", y.of(0, 3), 4);
        y.undo();
        y.undo();
        edges.due("back(), STEPS were taken back", y.back(), 2);
        edges.due("of(1, 3)", y.of(1, 3), 1);
        Scene wrong = scene(x -> {
            spoilt(x);
            x.image();
            x.mend();
            x.back();
        });
        edges.due("wrong(), the image was of a WRONG COUNT", wrong.anew().wrong(), 4);
        wrong.no("like(1), as one is WRONG", x -> x.like(1));
        ThinVolumes z = spoilt.anew();
        edges.due("back() goes with a WRONG COUNT", z.back(), 2);
        edges.due("wrong()", z.wrong(), -1);
    }

    private void steps() {
        edges.promise(63, "STEPS that can be taken back.");
        int[][] want = {{0, 0}, {1, 1}, {15, 15}, {16, 16}, {17, 16}, {40, 16}};
        for (int[] w : want) {
            scene(x -> {
                if (w[0] > 0) steps(x, w[0]);
            }).gives("steps() with " + w[0], ThinVolumes::steps, w[1]);
        }
        ThinVolumes y = new ThinVolumes();
        steps(y, 17);
        y.undo();
        edges.due("one taken back", y.steps(), 15);
        y.like(1);
        edges.due("one more", y.steps(), 16);
        y.like(1);
        edges.due("no more than 16", y.steps(), 16);
    }
}
