/** Edges of promises 9 to 11, 15 to 20: pieces shared, grafted, filled, moved; streams, exchanges, the stage. */
final class PieceEdges {
    private static final int[] NO_LENGTHS = {Integer.MIN_VALUE, -1, 0, 65, Integer.MAX_VALUE};
    private static final int[] NO_ADDRESSES = {Integer.MIN_VALUE, -1, 100, 511, 512, Integer.MAX_VALUE};

    private final Edges edges;
    private final Scene plain;

    PieceEdges(Edges edges) {
        this.edges = edges;
        plain = new Scene(edges, Scenes::plain);
    }

    void look() {
        share();
        shareThatCannotBe();
        graft();
        graftOfOthers();
        graftThatCannotBe();
        fill();
        fillThatCannotBe();
        send();
        receive();
        receiveThatCannotBe();
        move();
        moveThatCannotBe();
        swap();
        swapThatCannotBe();
        stage();
        commit();
        commitThatCannotBe();
    }

    private Scene scene(Scene.Made made) {
        return new Scene(edges, made);
    }

    private void share() {
        edges.promise(9, "SHARED: true.");
        ThinVolumes y = plain.yes("share(0, 8, 1, 0, 1), n 1", x -> x.share(0, 8, 1, 0, 1));
        edges.due("block(1, 0)", y.block(1, 0), 0);
        edges.due("block(1, 1)", y.block(1, 1), -1);
        y = plain.yes("share(0, 99, 1, 19, 1), the last ADDRESSES", x -> x.share(0, 99, 1, 19, 1));
        edges.due("block(1, 19)", y.block(1, 19), 3);
        y = plain.yes("share(0, 80, 1, 0, 20), up to both SIZES", x -> x.share(0, 80, 1, 0, 20));
        edges.due("of(1, 3), what is MAPPED here alone was WIPED", y.of(1, 3), 1);
        y = plain.yes("share(1, 0, 0, 80, 20), up to both SIZES", x -> x.share(1, 0, 0, 80, 20));
        edges.due("block(0, 80)", y.block(0, 80), 4);
        edges.due("block(0, 99)", y.block(0, 99), -1);
        y = plain.yes("share(2, 8, 1, 5, 3), of one that is READ ONLY", x -> x.share(2, 8, 1, 5, 3));
        edges.due("block(1, 7)", y.block(1, 7), 2);
        edges.due("block(1, 0), it stays", y.block(1, 0), 4);
        Scene large = scene(x -> Scenes.blocks(x, 70));
        y = large.yes("share(0, 3, 1, 448, 64), n 64", x -> x.share(0, 3, 1, 448, 64));
        edges.due("of(1, 3)", y.of(1, 3), 64);
        edges.due("block(1, 511)", y.block(1, 511), 66);
        plain.yes("share(0, 0, 1, 10, 5), nothing at both", x -> x.share(0, 0, 1, 10, 5));

        edges.promise(9, "False, if it can't be, and for others (past a SIZE, too).");
        for (int n : NO_LENGTHS) {
            plain.no("share(0, 0, 1, 0, " + n + ")", x -> x.share(0, 0, 1, 0, n));
            large.no("share(0, 0, 1, 0, " + n + ")", x -> x.share(0, 0, 1, 0, n));
        }
        plain.no("share(0, 81, 1, 0, 20), past its SIZE", x -> x.share(0, 81, 1, 0, 20));
        plain.no("share(0, 0, 1, 1, 20), past the other's SIZE", x -> x.share(0, 0, 1, 1, 20));
        plain.no("share(0, 0, 1, 0, 21), past the other's SIZE", x -> x.share(0, 0, 1, 0, 21));
        plain.no("share(1, 1, 0, 0, 20), past its SIZE", x -> x.share(1, 1, 0, 0, 20));
        large.no("share(0, 449, 1, 0, 64), past 512", x -> x.share(0, 449, 1, 0, 64));
        for (int address : NO_ADDRESSES) {
            plain.no("share(0, " + address + ", 1, 0, 1)", x -> x.share(0, address, 1, 0, 1));
            plain.no("share(1, 0, 0, " + address + ", 1)", x -> x.share(1, 0, 0, address, 1));
        }
        for (int volume : Scenes.NO_VOLUMES) {
            plain.no("share(" + volume + ", 0, 1, 0, 1)", x -> x.share(volume, 0, 1, 0, 1));
            plain.no("share(0, 0, " + volume + ", 0, 1)", x -> x.share(0, 0, volume, 0, 1));
        }
        plain.no("share(0, 8, 0, 50, 1), like VOLUMES", x -> x.share(0, 8, 0, 50, 1));
        plain.no("share(1, 0, 2, 0, 1), READ ONLY", x -> x.share(1, 0, 2, 0, 1));
    }

    private void shareThatCannotBe() {
        edges.promise(9, "False, if it can't be, and for others (past a SIZE, too).");
        scene(x -> {
            Scenes.plain(x);
            x.quota(1, 4);
        }).yes("share(0, 8, 1, 1, 3), to its QUOTA", x -> x.share(0, 8, 1, 1, 3));
        Scene three = scene(x -> {
            Scenes.plain(x);
            x.quota(1, 3);
        });
        three.no("share(0, 8, 1, 1, 3), past its QUOTA", x -> x.share(0, 8, 1, 1, 3));
        three.yes("share(0, 8, 1, 0, 3), one of them was MAPPED", x -> x.share(0, 8, 1, 0, 3));
        scene(x -> Scenes.parts(x, 3)).yes("share(0, 7, 3, 7, 1), the last three PARTS", x -> x.share(0, 7, 3, 7, 1));
        scene(x -> Scenes.parts(x, 3)).no("share(0, 7, 3, 7, 2), a LEAF more", x -> x.share(0, 7, 3, 7, 2));
        scene(x -> Scenes.parts(x, 2)).no("share(0, 7, 3, 7, 1), a PART fewer", x -> x.share(0, 7, 3, 7, 1));
        // Opened, though the same BLOCK is there already.
        Scene split = scene(x -> {
            Scenes.parts(x, 3);
            x.take(0, false);
        });
        edges.due("is(2)", split.yes("share(0, 7, 4, 7, 1), three are split", x -> x.share(0, 7, 4, 7, 1)).is(2), 160);
        scene(x -> {
            Scenes.parts(x, 2);
            x.take(0, false);
        }).no("share(0, 7, 4, 7, 1), a PART fewer", x -> x.share(0, 7, 4, 7, 1));
        // 1 has BLOCKS 0 .. 9 with 0; what is WIPED of it is RESERVED for it again.
        scene(x -> {
            Scenes.blocks(x, 10);
            x.bring(1, 0);
            x.reserve(1, 95);
        }).yes("share(0, 10, 1, 9, 1), one is not RESERVED", x -> x.share(0, 10, 1, 9, 1));
        scene(x -> {
            Scenes.blocks(x, 10);
            x.bring(1, 0);
            x.reserve(1, 95);
        }).no("share(0, 10, 1, 8, 2), two were needed", x -> x.share(0, 10, 1, 8, 2));
    }

    private void graft() {
        edges.promise(10, "GRAFTED: true.");
        ThinVolumes y = plain.yes("graft(0, 10, 0, 1, 19, 0), a BLOCK", x -> x.graft(0, 10, 0, 1, 19, 0));
        edges.due("block(1, 19)", y.block(1, 19), 2);
        edges.due("of(1, 3)", y.of(1, 3), 2);
        y = plain.yes("graft(0, 15, 1, 1, 0, 1), a LEAF, where nothing is MAPPED", x -> x.graft(0, 15, 1, 1, 0, 1));
        edges.due("path(1, 0, 2)", y.path(1, 0, 2), 2);
        edges.due("block(1, 2)", y.block(1, 2), 2);
        edges.due("BLOCK 4 is free", y.ofBlock(4, 0), -1);
        y = plain.yes("graft(0, 63, 2, 1, 19, 2), a TWIG", x -> x.graft(0, 63, 2, 1, 19, 2));
        edges.due("path(1, 0, 1)", y.path(1, 0, 1), 1);
        edges.due("of(1, 3)", y.of(1, 3), 3);
        y = plain.yes("graft(1, 0, 2, 0, 99, 2), to the last ADDRESS", x -> x.graft(1, 0, 2, 0, 99, 2));
        edges.due("block(0, 64)", y.block(0, 64), 4);
        y = plain.yes("graft(2, 8, 0, 0, 0, 0), of one that is READ ONLY", x -> x.graft(2, 8, 0, 0, 0, 0));
        edges.due("block(0, 0)", y.block(0, 0), 0);
        plain.yes("graft(2, 8, 1, 0, 8, 1), what is there already", x -> x.graft(2, 8, 1, 0, 8, 1));
    }

    private void graftOfOthers() {
        edges.promise(10, "False, if it can't be, and for others.");
        for (int what = 0; what <= 2; what++) {
            for (int where = 0; where <= 2; where++) {
                if (what == where) continue;
                int its = what;
                int there = where;
                plain.no("graft(0, 8, " + what + ", 1, 0, " + where + ")", x -> x.graft(0, 8, its, 1, 0, there));
            }
        }
        for (int what : new int[] {Integer.MIN_VALUE, -1, 3, 4, Integer.MAX_VALUE}) {
            plain.no("graft(0, 8, " + what + ", 1, 0, " + what + ")", x -> x.graft(0, 8, what, 1, 0, what));
            plain.no("graft(0, 8, " + what + ", 1, 0, 0)", x -> x.graft(0, 8, what, 1, 0, 0));
            plain.no("graft(0, 8, 2, 1, 0, " + what + ")", x -> x.graft(0, 8, 2, 1, 0, what));
        }
        for (int address : NO_ADDRESSES) {
            plain.no("graft(0, " + address + ", 1, 1, 0, 1)", x -> x.graft(0, address, 1, 1, 0, 1));
            plain.no("graft(1, 0, 1, 0, " + address + ", 1)", x -> x.graft(1, 0, 1, 0, address, 1));
        }
        for (int volume : Scenes.NO_VOLUMES) {
            plain.no("graft(" + volume + ", 8, 1, 1, 0, 1)", x -> x.graft(volume, 8, 1, 1, 0, 1));
            plain.no("graft(0, 8, 1, " + volume + ", 0, 1)", x -> x.graft(0, 8, 1, volume, 0, 1));
        }
        plain.no("graft(0, 8, 0, 0, 50, 0), like VOLUMES", x -> x.graft(0, 8, 0, 0, 50, 0));
        plain.no("graft(1, 0, 0, 2, 8, 0), READ ONLY", x -> x.graft(1, 0, 0, 2, 8, 0));
        plain.no("graft(0, 11, 0, 1, 0, 0), no BLOCK", x -> x.graft(0, 11, 0, 1, 0, 0));
        plain.no("graft(0, 16, 1, 1, 0, 1), no LEAF", x -> x.graft(0, 16, 1, 1, 0, 1));
        Scene empty = scene(x -> {
            Scenes.plain(x);
            x.make(512, 5);
            x.size(0, 512);
        });
        empty.no("graft(0, 128, 2, 3, 0, 2), no TWIG", x -> x.graft(0, 128, 2, 3, 0, 2));
        for (int what = 0; what <= 2; what++) {
            int its = what;
            empty.no("graft(3, 0, " + what + ", 0, 0, " + what + "), no TRUNK", x -> x.graft(3, 0, its, 0, 0, its));
        }
    }

    private void graftThatCannotBe() {
        edges.promise(10, "False, if it can't be, and for others.");
        // The LEAF has its last BLOCK in place 2, so at 18.
        scene(x -> {
            Scenes.plain(x);
            x.size(1, 19);
        }).yes("graft(0, 8, 1, 1, 16, 1), up to SIZE", x -> x.graft(0, 8, 1, 1, 16, 1));
        scene(x -> {
            Scenes.plain(x);
            x.size(1, 18);
        }).no("graft(0, 8, 1, 1, 16, 1), from SIZE on", x -> x.graft(0, 8, 1, 1, 16, 1));
        // The TWIG at 64 has its BLOCK at 35 of it.
        scene(x -> {
            Scenes.plain(x);
            x.size(1, 36);
        }).yes("graft(0, 64, 2, 1, 0, 2), up to SIZE", x -> x.graft(0, 64, 2, 1, 0, 2));
        scene(x -> {
            Scenes.plain(x);
            x.size(1, 35);
        }).no("graft(0, 64, 2, 1, 0, 2), from SIZE on", x -> x.graft(0, 64, 2, 1, 0, 2));
        scene(x -> {
            Scenes.plain(x);
            x.quota(1, 4);
        }).yes("graft(0, 8, 1, 1, 8, 1), to its QUOTA", x -> x.graft(0, 8, 1, 1, 8, 1));
        scene(x -> {
            Scenes.plain(x);
            x.quota(1, 3);
        }).no("graft(0, 8, 1, 1, 8, 1), past its QUOTA", x -> x.graft(0, 8, 1, 1, 8, 1));
        for (int what = 0; what <= 2; what++) {
            int its = what;
            int parts = 3 - what;
            String call = "graft(0, 7, " + what + ", 3, 7, " + what + ")";
            ThinVolumes y = scene(x -> Scenes.parts(x, parts)).yes(call + ", the last PARTS", x -> x.graft(0, 7, its, 3, 7, its));
            edges.due("is(2)", y.is(2), 160);
            scene(x -> Scenes.parts(x, parts - 1)).no(call + ", one fewer", x -> x.graft(0, 7, its, 3, 7, its));
        }
        // The LEAF of 1 has 8 BLOCKS of 0, too; with the one of 2 instead it has one MAPPED.
        scene(x -> {
            Scenes.blocks(x, 8);
            x.bring(1, 0);
            x.make(512, 512);
            x.write(2, 0, 3);
            x.reserve(1, 88);
        }).yes("graft(2, 0, 1, 1, 0, 1), 87 are free, as are RESERVED then", x -> x.graft(2, 0, 1, 1, 0, 1));
        scene(x -> {
            Scenes.blocks(x, 8);
            x.bring(1, 0);
            x.make(512, 512);
            x.write(2, 0, 3);
            x.reserve(1, 89);
        }).no("graft(2, 0, 1, 1, 0, 1), one fewer is free", x -> x.graft(2, 0, 1, 1, 0, 1));
    }

    private void fill() {
        edges.promise(11, "FILLED: true.");
        ThinVolumes y = plain.yes("fill(0, 99, 1, 0), n 1", x -> x.fill(0, 99, 1, 0));
        edges.due("of(0, 3)", y.of(0, 3), 4);
        y = plain.yes("fill(1, 0, 10, 999999), to its QUOTA", x -> x.fill(1, 0, 10, 999999));
        edges.due("times(1, 999999)", y.times(1, 999999), 10);
        edges.due("block(1, 0), its own", y.block(1, 0), 4);
        edges.due("block(1, 9)", y.block(1, 9), 13);
        Scene large = scene(x -> Scenes.blocks(x, 0));
        y = large.yes("fill(0, 448, 64, 3), n 64, up to SIZE", x -> x.fill(0, 448, 64, 3));
        edges.due("of(0, 3)", y.of(0, 3), 64);
        edges.due("block(0, 511)", y.block(0, 511), 63);

        edges.promise(11, "False, if it can't be, and for others (past SIZE, too).");
        for (int n : NO_LENGTHS) {
            plain.no("fill(0, 0, " + n + ", 1)", x -> x.fill(0, 0, n, 1));
            large.no("fill(0, 0, " + n + ", 1)", x -> x.fill(0, 0, n, 1));
        }
        plain.no("fill(0, 99, 2, 1), past SIZE", x -> x.fill(0, 99, 2, 1));
        plain.no("fill(0, 91, 10, 1), past SIZE", x -> x.fill(0, 91, 10, 1));
        large.no("fill(0, 449, 64, 3), past SIZE", x -> x.fill(0, 449, 64, 3));
        for (int address : NO_ADDRESSES) plain.no("fill(0, " + address + ", 1, 1)", x -> x.fill(0, address, 1, 1));
        for (int volume : Scenes.NO_VOLUMES) plain.no("fill(" + volume + ", 0, 1, 1)", x -> x.fill(volume, 0, 1, 1));
        for (int value : Scenes.NO_VALUES) plain.no("fill(0, 0, 1, " + value + ")", x -> x.fill(0, 0, 1, value));
        plain.no("fill(2, 8, 1, 1), READ ONLY", x -> x.fill(2, 8, 1, 1));
        plain.no("fill(1, 0, 11, 1), past its QUOTA", x -> x.fill(1, 0, 11, 1));
    }

    private void fillThatCannotBe() {
        edges.promise(11, "False, if it can't be, and for others (past SIZE, too).");
        Scene blocks = scene(x -> Scenes.blocks(x, 40));
        edges.due("is(1)", blocks.yes("fill(1, 0, 56, 1), the last BLOCKS", x -> x.fill(1, 0, 56, 1)).is(1), 96);
        blocks.no("fill(1, 0, 57, 1), one more", x -> x.fill(1, 0, 57, 1));
        blocks.yes("fill(0, 20, 64, 1), 20 are its own", x -> x.fill(0, 20, 64, 1));
        scene(x -> Scenes.parts(x, 3)).yes("fill(3, 0, 8, 1), the last PARTS", x -> x.fill(3, 0, 8, 1));
        scene(x -> Scenes.parts(x, 3)).no("fill(3, 0, 9, 1), a LEAF more", x -> x.fill(3, 0, 9, 1));
        scene(x -> Scenes.parts(x, 2)).no("fill(3, 0, 8, 1), one fewer", x -> x.fill(3, 0, 8, 1));
        Scene reserved = scene(x -> {
            Scenes.blocks(x, 40);
            x.reserve(0, 90);
        });
        reserved.yes("fill(1, 0, 6, 1), all that are not RESERVED", x -> x.fill(1, 0, 6, 1));
        reserved.no("fill(1, 0, 7, 1), one more", x -> x.fill(1, 0, 7, 1));
        reserved.yes("fill(0, 40, 56, 1), for itself", x -> x.fill(0, 40, 56, 1));
    }

    private void send() {
        edges.promise(15, "SENT: how many rows THE STREAM has.");
        ThinVolumes y = plain.anew();
        edges.due("send(1, 0)", y.send(1, 0), 5);
        edges.due("send(0, 1)", y.send(0, 1), 5);
        edges.due("stream(0, 1)", y.stream(0, 1), 7);
        edges.due("stream(1, 1), none", y.stream(1, 1), -1);
        edges.due("steps(), it is none", y.steps(), plain.anew().steps());
        edges.due("send(0, 2), of the same TRUNK", y.send(0, 2), 0);
        edges.due("is(10), none stays of the one ahead", y.is(10), 0);
        edges.due("send(0, 0)", y.send(0, 0), 0);
        Scene most = scene(x -> Scenes.parts(x, 14));
        y = most.anew();
        edges.due("send(3, 0), as many as can be", y.send(3, 0), 512);
        edges.due("stream(511, 0)", y.stream(511, 0), 511);
        edges.due("stream(511, 1)", y.stream(511, 1), 1);
        edges.due("stream(512, 0)", y.stream(512, 0), -2);
        edges.due("send(0, 3)", y.send(0, 3), 512);
        edges.due("stream(511, 1)", y.stream(511, 1), -1);
        edges.same("send(0, 3) leaves all but THE STREAM", Scene.state(x -> {
            Scenes.parts(x, 14);
            x.send(0, 3);
        }), most.look());

        edges.promise(15, "NONE for others.");
        for (int volume : Scenes.NO_VOLUMES) {
            plain.none("send(" + volume + ", 0)", x -> x.send(volume, 0));
            plain.none("send(0, " + volume + ")", x -> x.send(0, volume));
            plain.none("send(" + volume + ", " + volume + ")", x -> x.send(volume, volume));
        }
    }

    /** THE STREAM: 0 none, 8, 9, 10 VALUE 5, 99 VALUE 6. */
    private void receive() {
        edges.promise(16, "TAKEN IN: true.");
        Scene grown = scene(x -> {
            Scenes.plain(x);
            x.size(1, 100);
        });
        ThinVolumes y = grown.yes("receive(1), the last row at its last ADDRESS", x -> x.receive(1));
        edges.due("block(1, 0), WIPED", y.block(1, 0), -1);
        edges.due("read(1, 99)", y.read(1, 99), 6);
        edges.due("of(1, 3)", y.of(1, 3), 4);
        edges.due("is(10), it stays", y.is(10), 5);
        y = plain.yes("receive(0), nothing is MAPPED at 0", x -> x.receive(0));
        edges.due("of(0, 3)", y.of(0, 3), 4);
        scene(x -> x.make(1, 0)).yes("receive(0) of no rows", x -> x.receive(0));

        edges.promise(16, "False, if it can't be, and for others.");
        plain.no("receive(1), rows from SIZE on", x -> x.receive(1));
        scene(x -> {
            Scenes.plain(x);
            x.size(1, 99);
        }).no("receive(1), one row from SIZE on", x -> x.receive(1));
        Scene none = scene(x -> {
            Scenes.plain(x);
            x.size(1, 99);
            x.wipe(0, 99);
            x.send(2, 0);
        });
        edges.due("stream(0, 1)", none.anew().stream(0, 1), -1);
        none.no("receive(1), a row without a VALUE from SIZE on", x -> x.receive(1));
        for (int volume : Scenes.NO_VOLUMES) plain.no("receive(" + volume + ")", x -> x.receive(volume));
        plain.no("receive(2), READ ONLY", x -> x.receive(2));
    }

    private void receiveThatCannotBe() {
        edges.promise(16, "False, if it can't be, and for others.");
        scene(x -> {
            Scenes.plain(x);
            x.size(1, 100);
            x.quota(1, 4);
        }).yes("receive(1), to its QUOTA", x -> x.receive(1));
        scene(x -> {
            Scenes.plain(x);
            x.size(1, 100);
            x.quota(1, 3);
        }).no("receive(1), past its QUOTA", x -> x.receive(1));
        scene(x -> sentBlocks(x, 48)).yes("receive(1), the last BLOCKS", x -> x.receive(1));
        scene(x -> sentBlocks(x, 49)).no("receive(1), one more", x -> x.receive(1));
        scene(x -> {
            sentBlocks(x, 40);
            x.reserve(0, 56);
        }).yes("receive(1), all that are not RESERVED", x -> x.receive(1));
        scene(x -> {
            sentBlocks(x, 40);
            x.reserve(0, 57);
        }).no("receive(1), one more", x -> x.receive(1));
        scene(x -> sentRows(x, 4)).yes("receive(4), the last PARTS", x -> x.receive(4));
        scene(x -> sentRows(x, 3)).no("receive(4), one fewer", x -> x.receive(4));
    }

    /** THE STREAM has so many rows; 96 less so many BLOCKS are free. */
    private static void sentBlocks(ThinVolumes x, int rows) {
        Scenes.blocks(x, rows);
        x.send(1, 0);
    }

    /** THE STREAM has a row at 0 and one at 8, of VALUE 1; VOLUME 4 is empty. */
    private static void sentRows(ThinVolumes x, int freeParts) {
        x.make(512, 512);
        x.write(0, 0, 1);
        x.write(0, 8, 1);
        x.make(512, 512);
        x.send(1, 0);
        x.free(0);
        x.free(1);
        Scenes.parts(x, freeParts);
        x.make(512, 512);
    }

    private void move() {
        edges.promise(17, "MOVED: true.");
        ThinVolumes y = plain.yes("move(0, 99, 0, 1), n 1", x -> x.move(0, 99, 0, 1));
        edges.due("block(0, 0)", y.block(0, 0), 3);
        edges.due("block(0, 99)", y.block(0, 99), -1);
        y = plain.yes("move(0, 8, 97, 3), up to SIZE", x -> x.move(0, 8, 97, 3));
        edges.due("block(0, 99)", y.block(0, 99), 2);
        edges.due("next(0, 0)", y.next(0, 0), 97);
        y = plain.yes("move(0, 8, 11, 3), just behind it", x -> x.move(0, 8, 11, 3));
        edges.due("next(0, 0)", y.next(0, 0), 11);
        y = plain.yes("move(0, 8, 5, 3), just ahead of it", x -> x.move(0, 8, 5, 3));
        edges.due("block(0, 7)", y.block(0, 7), 2);
        edges.due("block(0, 8)", y.block(0, 8), -1);
        y = plain.yes("move(0, 0, 64, 36), n that reaches SIZE", x -> x.move(0, 0, 64, 36));
        edges.due("block(0, 99), nothing is MAPPED there, so it is WIPED", y.block(0, 99), -1);
        edges.due("block(0, 74)", y.block(0, 74), 2);
        Scene large = scene(x -> Scenes.blocks(x, 70));
        y = large.yes("move(0, 0, 448, 64), n 64", x -> x.move(0, 0, 448, 64));
        edges.due("block(0, 511)", y.block(0, 511), 63);
        edges.due("next(0, 0)", y.next(0, 0), 64);
        large.yes("move(0, 0, 64, 64), n 64, just behind it", x -> x.move(0, 0, 64, 64));
        plain.yes("move(0, 20, 30, 5), of nothing", x -> x.move(0, 20, 30, 5));

        edges.promise(17, "False, if it can't be, and for others.");
        for (int n : NO_LENGTHS) {
            plain.no("move(0, 0, 30, " + n + ")", x -> x.move(0, 0, 30, n));
            large.no("move(0, 0, 200, " + n + ")", x -> x.move(0, 0, 200, n));
        }
        plain.no("move(0, 8, 10, 3), one in both", x -> x.move(0, 8, 10, 3));
        plain.no("move(0, 8, 6, 3), one in both", x -> x.move(0, 8, 6, 3));
        plain.no("move(0, 8, 8, 1), all in both", x -> x.move(0, 8, 8, 1));
        large.no("move(0, 0, 63, 64), one in both", x -> x.move(0, 0, 63, 64));
        plain.no("move(0, 8, 98, 3), past SIZE", x -> x.move(0, 8, 98, 3));
        plain.no("move(0, 98, 8, 3), past SIZE", x -> x.move(0, 98, 8, 3));
        for (int address : NO_ADDRESSES) {
            plain.no("move(0, " + address + ", 0, 1)", x -> x.move(0, address, 0, 1));
            plain.no("move(0, 0, " + address + ", 1)", x -> x.move(0, 0, address, 1));
        }
        for (int volume : Scenes.NO_VOLUMES) plain.no("move(" + volume + ", 8, 0, 1)", x -> x.move(volume, 8, 0, 1));
        plain.no("move(2, 8, 0, 1), READ ONLY", x -> x.move(2, 8, 0, 1));
    }

    private void moveThatCannotBe() {
        edges.promise(17, "False, if it can't be, and for others.");
        // A LEAF at 88 is new ahead of the one at 8 being let go.
        scene(x -> Scenes.parts(x, 1)).yes("move(2, 8, 88, 1), the last PART", x -> x.move(2, 8, 88, 1));
        Scene none = scene(x -> Scenes.parts(x, 0));
        none.no("move(2, 8, 88, 1), none", x -> x.move(2, 8, 88, 1));
        none.yes("move(2, 8, 17, 1), where there is a LEAF", x -> x.move(2, 8, 17, 1));
        scene(x -> {
            Scenes.blocks(x, 0);
            x.fill(0, 0, 8, 1);
            x.quota(0, 8);
        }).yes("move(0, 0, 8, 8), at its QUOTA", x -> x.move(0, 0, 8, 8));
        // Over a BLOCK that is in 1, too: one fewer is MAPPED, none is free by it.
        scene(x -> {
            Scenes.blocks(x, 10);
            x.bring(1, 0);
            x.reserve(0, 95);
        }).yes("move(0, 0, 5, 1), one is not RESERVED", x -> x.move(0, 0, 5, 1));
        scene(x -> {
            Scenes.blocks(x, 10);
            x.bring(1, 0);
            x.reserve(0, 96);
        }).no("move(0, 0, 5, 1), all are RESERVED", x -> x.move(0, 0, 5, 1));
    }

    private void swap() {
        edges.promise(18, "EXCHANGED: true.");
        ThinVolumes y = plain.yes("swap(0, 1)", x -> x.swap(0, 1));
        int[] want = {20, 50, 0, 1, 5, 1, 0, 0, -1, 0, 0, 1};
        for (int what = 0; what < 12; what++) edges.due("of(0, " + what + ") then", y.of(0, what), want[what]);
        int[] other = {100, 10, 0, 4, 0, 0, 0, 0, -1, 1, 0, 2};
        for (int what = 0; what < 12; what++) edges.due("of(1, " + what + ") then", y.of(1, what), other[what]);
        edges.due("of(2, 8)", y.of(2, 8), 0);
        scene(x -> {
            Scenes.plain(x);
            x.make(1, 4);
        }).yes("swap(3, 0), with an empty one", x -> x.swap(3, 0));

        edges.promise(18, "False, if it can't be, and for others (one that is READ ONLY, too).");
        plain.no("swap(0, 0)", x -> x.swap(0, 0));
        plain.no("swap(2, 2)", x -> x.swap(2, 2));
        plain.no("swap(0, 2), READ ONLY", x -> x.swap(0, 2));
        plain.no("swap(2, 1), READ ONLY", x -> x.swap(2, 1));
        for (int volume : Scenes.NO_VOLUMES) {
            plain.no("swap(" + volume + ", 0)", x -> x.swap(volume, 0));
            plain.no("swap(0, " + volume + ")", x -> x.swap(0, volume));
            plain.no("swap(" + volume + ", " + volume + ")", x -> x.swap(volume, volume));
        }
    }

    private void swapThatCannotBe() {
        edges.promise(18, "False, if it can't be, and for others (one that is READ ONLY, too).");
        Scene most = scene(x -> {
            Scenes.plain(x);
            x.quota(1, 4);
        });
        most.yes("swap(0, 1), to the other's QUOTA", x -> x.swap(0, 1));
        most.yes("swap(1, 0), to its QUOTA", x -> x.swap(1, 0));
        Scene past = scene(x -> {
            Scenes.plain(x);
            x.quota(1, 3);
        });
        past.no("swap(0, 1), past the other's QUOTA", x -> x.swap(0, 1));
        past.no("swap(1, 0), past its QUOTA", x -> x.swap(1, 0));
        // 86 are free; exchanged with an empty one, what 0 has RESERVED is all short.
        Scene just = scene(x -> {
            Scenes.blocks(x, 10);
            x.reserve(0, 86);
        });
        just.yes("swap(0, 1), as many are free as are RESERVED", x -> x.swap(0, 1));
        Scene short1 = scene(x -> {
            Scenes.blocks(x, 10);
            x.reserve(0, 87);
        });
        short1.no("swap(0, 1), one fewer is free", x -> x.swap(0, 1));
        short1.no("swap(1, 0), one fewer is free", x -> x.swap(1, 0));
    }

    private static void rows(ThinVolumes x, int rows) {
        x.make(100, 50);
        x.image();
        for (int i = 0; i < rows; i++) x.stage(i, 10 * i);
    }

    private void stage() {
        edges.promise(19, "A row comes behind THE STAGE (value NONE: none): how many it has.");
        ThinVolumes y = plain.anew();
        edges.due("stage(0, 0)", y.stage(0, 0), 3);
        edges.due("stage(511, 999999), past every SIZE", y.stage(511, 999999), 4);
        edges.due("stage(3, -1), none", y.stage(3, -1), 5);
        int[][] want = {{3, 30}, {4, -1}, {0, 0}, {511, 999999}, {3, -1}};
        for (int i = 0; i < 5; i++) {
            edges.due("staged(" + i + ", 0)", y.staged(i, 0), want[i][0]);
            edges.due("staged(" + i + ", 1)", y.staged(i, 1), want[i][1]);
        }
        edges.due("is(11)", y.is(11), 5);
        edges.due("steps(), it is none", y.steps(), plain.anew().steps());
        edges.due("stage(1, 1), the first", new ThinVolumes().stage(1, 1), 1);
        y = scene(x -> rows(x, 15)).anew();
        edges.due("stage(7, 7), the 16th", y.stage(7, 7), 16);
        edges.due("staged(15, 1)", y.staged(15, 1), 7);

        edges.promise(19, "NONE for others, or if it has 16.");
        Scene sixteen = scene(x -> rows(x, 16));
        sixteen.none("stage(7, 7), a 17th", x -> x.stage(7, 7));
        sixteen.none("stage(0, -1), a 17th", x -> x.stage(0, -1));
        for (int address : new int[] {Integer.MIN_VALUE, -1, 512, Integer.MAX_VALUE}) {
            plain.none("stage(" + address + ", 1)", x -> x.stage(address, 1));
            plain.none("stage(" + address + ", -1)", x -> x.stage(address, -1));
        }
        for (int value : new int[] {Integer.MIN_VALUE, -2, 1000000, Integer.MAX_VALUE}) {
            plain.none("stage(0, " + value + ")", x -> x.stage(0, value));
        }
        ThinVolumes z = sixteen.anew();
        edges.yes("commit(0)", z.commit(0));
        edges.due("stage(7, 7) then, the first", z.stage(7, 7), 1);
    }

    private void commit() {
        edges.promise(20, "THE STAGE is DONE: true.");
        ThinVolumes y = plain.yes("commit(0)", x -> x.commit(0));
        edges.due("read(0, 3)", y.read(0, 3), 30);
        edges.due("is(11), it has none then", y.is(11), 0);
        edges.due("staged(0, 0)", y.staged(0, 0), -2);
        edges.due("undo()", y.undo() >= 0 ? y.is(11) : -9, 0);
        y = scene(x -> rows(x, 16)).yes("commit(0), 16 rows", x -> x.commit(0));
        edges.due("read(0, 15)", y.read(0, 15), 150);
        scene(x -> rows(x, 0)).yes("commit(0), no rows", x -> x.commit(0));
        Scene four = scene(x -> {
            Scenes.plain(x);
            x.size(1, 5);
        });
        edges.due("of(1, 3)", four.yes("commit(1), a row at its last ADDRESS", x -> x.commit(1)).of(1, 3), 2);
        Scene wiped = scene(x -> {
            Scenes.plain(x);
            x.stage(0, -1);
            x.stage(3, -1);
        });
        edges.due("of(1, 4), a row WIPES what one ahead of it has WRITTEN", wiped.yes("commit(1)", x -> x.commit(1)).of(1, 4), -1);

        edges.promise(20, "False (it stays), if it can't be, and for others.");
        scene(x -> {
            Scenes.plain(x);
            x.size(1, 4);
        }).no("commit(1), a row without a VALUE from SIZE on", x -> x.commit(1));
        Scene last = scene(x -> {
            Scenes.plain(x);
            x.stage(20, 1);
        });
        last.no("commit(1), the last row from SIZE on", x -> x.commit(1));
        last.yes("commit(0), of SIZE 100", x -> x.commit(0));
        for (int volume : Scenes.NO_VOLUMES) plain.no("commit(" + volume + ")", x -> x.commit(volume));
        plain.no("commit(2), READ ONLY", x -> x.commit(2));
    }

    private static void staged(ThinVolumes x, int rows) {
        for (int i = 0; i < rows; i++) x.stage(8 * i, 1);
    }

    private void commitThatCannotBe() {
        edges.promise(20, "False (it stays), if it can't be, and for others.");
        scene(x -> {
            Scenes.plain(x);
            x.quota(1, 2);
        }).yes("commit(1), to its QUOTA", x -> x.commit(1));
        Scene quota = scene(x -> {
            Scenes.plain(x);
            x.quota(1, 1);
        });
        quota.no("commit(1), past its QUOTA", x -> x.commit(1));
        scene(x -> {
            Scenes.plain(x);
            x.quota(1, 1);
            x.stage(0, -1);
        }).yes("commit(1), past its QUOTA on the way alone", x -> x.commit(1));
        scene(x -> {
            Scenes.blocks(x, 80);
            staged(x, 16);
        }).yes("commit(1), the last BLOCKS", x -> x.commit(1));
        scene(x -> {
            Scenes.blocks(x, 81);
            staged(x, 16);
        }).no("commit(1), one more", x -> x.commit(1));
        scene(x -> {
            Scenes.parts(x, 5);
            staged(x, 3);
        }).yes("commit(3), the last PARTS", x -> x.commit(3));
        scene(x -> {
            Scenes.parts(x, 4);
            staged(x, 3);
        }).no("commit(3), one fewer", x -> x.commit(3));
        scene(x -> {
            Scenes.blocks(x, 80);
            staged(x, 3);
            x.reserve(0, 93);
        }).yes("commit(1), all that are not RESERVED", x -> x.commit(1));
        scene(x -> {
            Scenes.blocks(x, 80);
            staged(x, 3);
            x.reserve(0, 94);
        }).no("commit(1), one more", x -> x.commit(1));
    }
}
