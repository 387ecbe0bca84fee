/** Edges of the document's Terms, which the promises' words (WRITTEN, SHARED, STEPS, ..) stand for. */
final class TermEdges {
    private final Edges edges;
    private final Scene plain;

    TermEdges(Edges edges) {
        this.edges = edges;
        plain = new Scene(edges, Scenes::plain);
    }

    void look() {
        constants();
        calls512();
        lastVolume();
        lastBlockAndPart();
        atFirst();
        born();
        places();
        mapped();
        leastFree();
        hung();
        opened();
        closed();
        written();
        cut();
        shared();
        filled();
        letGo();
        atAnyTime();
        quotas();
        reserves();
        readOnly();
        noReserves();
        streams();
        moved();
        staged();
        whileWrong();
        steps();
        alone();
        walked();
        image();
    }

    private Scene scene(Scene.Made made) {
        return new Scene(edges, made);
    }

    private void constants() {
        edges.terms("`NONE = -1`");
        edges.due("NONE", ThinVolumes.NONE, -1);
    }

    private void calls512() {
        edges.terms("An object is used for at most 512 calls after it has been made");
        ThinVolumes x = new ThinVolumes();
        x.make(512, 512);
        for (int call = 2; call <= 510; call++) x.write(0, call % 90, call);
        edges.due("the 511th call", x.read(0, 510 % 90), 510);
        edges.due("the 512th call", x.read(0, 509 % 90), 509);
    }

    private void lastVolume() {
        edges.terms("VOLUMES 0 .. 11");
        Scene twelve = scene(Scenes::twelve);
        twelve.yes("write(11, 99, 1)", x -> x.write(11, 99, 1));
        twelve.yes("wipe(11, 5)", x -> x.wipe(11, 5));
        twelve.yes("bring(11, 10)", x -> x.bring(11, 10));
        twelve.yes("bring(10, 11)", x -> x.bring(10, 11));
        twelve.yes("size(11, 6)", x -> x.size(11, 6));
        twelve.yes("quota(11, 2)", x -> x.quota(11, 2));
        twelve.yes("share(11, 5, 10, 0, 2)", x -> x.share(11, 5, 10, 0, 2));
        twelve.yes("share(10, 5, 11, 5, 2)", x -> x.share(10, 5, 11, 5, 2));
        twelve.yes("graft(11, 5, 2, 10, 0, 2)", x -> x.graft(11, 5, 2, 10, 0, 2));
        twelve.yes("graft(0, 5, 0, 11, 0, 0)", x -> x.graft(0, 5, 0, 11, 0, 0));
        twelve.yes("fill(11, 0, 50, 1)", x -> x.fill(11, 0, 50, 1));
        twelve.yes("reserve(11, 96)", x -> x.reserve(11, 96));
        twelve.does("hold(11, true)", x -> x.hold(11, true), 1);
        twelve.yes("receive(11)", x -> x.receive(11));
        twelve.yes("move(11, 5, 7, 2)", x -> x.move(11, 5, 7, 2));
        twelve.yes("swap(11, 10)", x -> x.swap(11, 10));
        twelve.yes("swap(10, 11)", x -> x.swap(10, 11));
        twelve.yes("commit(11)", x -> x.commit(11));
        twelve.does("free(11)", x -> x.free(11), 0);
        twelve.gives("of(11, 3)", x -> x.of(11, 3), 2);
        twelve.gives("read(11, 6)", x -> x.read(11, 6), 9);
        twelve.gives("block(11, 6)", x -> x.block(11, 6), 1);
        twelve.gives("differs(11, 10, -1)", x -> x.differs(11, 10, -1), 2);
        twelve.gives("walked(10, 11)", x -> x.walked(10, 11), 3);
        twelve.gives("changed(11, 10, 1)", x -> x.changed(11, 10, 1), 6);
        twelve.gives("path(11, 5, 2)", x -> x.path(11, 5, 2), 2);
        twelve.gives("times(11, 9)", x -> x.times(11, 9), 2);
        twelve.gives("parts(11, 0)", x -> x.parts(11, 0), 1);
        twelve.gives("children(0)", x -> x.children(0), 2048);
        twelve.gives("nearest(11, 0)", x -> x.nearest(11, 0), 0);
        twelve.gives("run(11, 0, 2)", x -> x.run(11, 0, 2), 2);
        twelve.gives("next(11, 0)", x -> x.next(11, 0), 5);
        twelve.gives("needs(11, 5, 1, 1)", x -> x.needs(11, 5, 1, 1), 3);
        twelve.gives("full(11)", x -> x.full(11), 20);
        twelve.gives("digest(11) as digest(0)", x -> x.digest(11) - x.digest(0), 0);
        twelve.gives("mean(11)", x -> x.mean(11) == Double.doubleToLongBits(9.0) ? 1 : 0, 1);
        edges.due("send(10, 11)", twelve.anew().send(10, 11), 2);
        edges.due("send(11, 10)", twelve.anew().send(11, 10), 2);
    }

    private void lastBlockAndPart() {
        edges.terms("BLOCKS 0 .. 95");
        ThinVolumes y = scene(x -> Scenes.blocks(x, 95)).anew();
        edges.yes("write(1, 0, 8)", y.write(1, 0, 8));
        edges.due("block(1, 0)", y.block(1, 0), 95);
        edges.no("write(1, 1, 8)", y.write(1, 1, 8));
        edges.terms("PARTS 0 .. 159");
        y = scene(x -> Scenes.parts(x, 1)).anew();
        edges.yes("write(2, 88, 1)", y.write(2, 88, 1));
        edges.due("path(2, 88, 2)", y.path(2, 88, 2), 159);
        edges.no("write(2, 96, 1)", y.write(2, 96, 1));
        edges.terms("One with COUNT 0 is free.");
        edges.yes("wipe(2, 88)", y.wipe(2, 88));
        edges.due("ofPart(159, 1)", y.ofPart(159, 1), -1);
        edges.due("is(2)", y.is(2), 159);
    }

    private void atFirst() {
        edges.terms("RESERVE 0 .. 96 (at first 0), HOLDS 0 .. 9 (at first 0)");
        Scene used = scene(x -> {
            x.make(100, 50);
            x.reserve(0, 96);
            x.hold(0, true);
            x.take(0, false);
            x.reserve(1, 0);
            x.hold(1, true);
            x.hold(1, false);
            x.free(1);
        });
        for (int what = 6; what <= 7; what++) {
            edges.due("make, of(1, " + what + ")", used.does("make(5, 5)", x -> x.make(5, 5), 1).of(1, what), 0);
            edges.due("take, of(1, " + what + ")", used.does("take(0, true)", x -> x.take(0, true), 1).of(1, what), 0);
        }
        edges.terms("a PARENT (at first the VOLUME from which it was TAKEN; none, if it was MADE)");
        edges.due("take, of(1, 8)", used.does("take(0, true)", x -> x.take(0, true), 1).of(1, 8), 0);
        edges.due("make, of(1, 8)", used.does("make(5, 5)", x -> x.make(5, 5), 1).of(1, 8), -1);
        edges.terms("LIKE: 0, 1 (at first 0).");
        edges.due("is(4)", new ThinVolumes().is(4), 0);
        edges.terms("THE STREAM (at first none)");
        edges.due("is(10)", new ThinVolumes().is(10), 0);
        edges.terms("THE STAGE (at first none)");
        edges.due("is(11)", new ThinVolumes().is(11), 0);
    }

    private void born() {
        edges.terms("BORN: how many were MADE and TAKEN ahead of it");
        ThinVolumes x = new ThinVolumes();
        x.make(0, 5);
        x.make(5, 5);
        edges.due("of(0, 9), a refused one isn't counted", x.of(0, 9), 0);
        x.take(0, true);
        edges.due("of(1, 9)", x.of(1, 9), 1);
        x.free(0);
        x.make(5, 5);
        edges.due("of(0, 9), one that was let go is", x.of(0, 9), 2);
        for (int volume = 2; volume < 12; volume++) x.make(5, 5);
        x.make(5, 5);
        x.take(1, true);
        edges.due("is(8), with 12 none is MADE, TAKEN", x.is(8), 13);
        x.undo();
        edges.due("is(8), taken back", x.is(8), 12);
    }

    private void places() {
        edges.terms("ADDRESS a (0 .. SIZE less 1): place a by 64 of the TRUNK, (a by 8) mod 8 of the TWIG there, a mod 8 of the LEAF there.");
        for (int address : new int[] {0, 1, 7, 8, 9, 62, 63, 64, 65, 71, 72, 127, 128, 447, 448, 504, 510, 511}) {
            ThinVolumes x = new ThinVolumes();
            x.make(512, 1);
            edges.yes("write(0, " + address + ", 5)", x.write(0, address, 5));
            int[] want = {address / 64, address / 8 % 8, address % 8};
            for (int part = 0; part < 3; part++) {
                for (int place = 0; place < 8; place++) {
                    int there = place != want[part] ? -1 : part == 2 ? 0 : part + 1;
                    edges.due("place(" + part + ", " + place + ") for " + address, x.place(part, place), there);
                }
            }
            edges.due("next(0, 0)", x.next(0, 0), address);
        }
    }

    private void mapped() {
        edges.terms("MAPPED: a BLOCK is there; its VALUE is READ; else 0.");
        ThinVolumes x = new ThinVolumes();
        x.make(5, 5);
        x.write(0, 0, 0);
        edges.due("read(0, 0), a VALUE of 0", x.read(0, 0), 0);
        edges.due("read(0, 1), nothing", x.read(0, 1), 0);
        edges.due("block(0, 0)", x.block(0, 0), 0);
        edges.due("block(0, 1)", x.block(0, 1), -1);
        edges.due("of(0, 3)", x.of(0, 3), 1);
        edges.terms("COUNT: in how many places (for a TRUNK: VOLUMES) it is.");
        x.graft(0, 0, 0, x.make(5, 5), 4, 0);
        x.graft(0, 0, 1, x.make(50, 50), 9, 1);
        x.take(0, true);
        x.take(0, true);
        edges.due("ofPart(0, 1), a TRUNK of three", x.ofPart(0, 1), 3);
        edges.due("ofPart(1, 1), its TWIG", x.ofPart(1, 1), 1);
        edges.due("ofPart(2, 1), a LEAF in two TWIGS", x.ofPart(2, 1), 2);
        edges.due("ofBlock(0, 1), a BLOCK in two LEAVES", x.ofBlock(0, 1), 2);
        edges.due("wrong()", x.wrong(), -1);
    }

    private void leastFree() {
        edges.terms("A new PART, BLOCK, VOLUME is the least that is free.");
        ThinVolumes x = new ThinVolumes();
        for (int volume = 0; volume < 4; volume++) {
            x.make(20, 20);
            x.write(volume, 0, volume);
        }
        x.free(2);
        x.free(1);
        edges.due("make(20, 20)", x.make(20, 20), 1);
        edges.yes("write(3, 1, 9)", x.write(3, 1, 9));
        edges.due("block(3, 1)", x.block(3, 1), 1);
        edges.yes("write(3, 8, 9)", x.write(3, 8, 9));
        edges.due("path(3, 8, 2)", x.path(3, 8, 2), 3);
        edges.due("block(3, 8)", x.block(3, 8), 2);
        edges.yes("write(1, 0, 9)", x.write(1, 0, 9));
        edges.due("block(1, 0), none lower is free", x.block(1, 0), 4);
        int[] want = {4, 5, 6};
        for (int i = 0; i < 3; i++) edges.due("path(1, 0, " + i + ")", x.path(1, 0, i), want[i]);
        edges.due("make(20, 20)", x.make(20, 20), 2);
        edges.due("make(20, 20)", x.make(20, 20), 4);
    }

    private void hung() {
        edges.terms("HUNG in a place: its COUNT is one more, then what was there is LET GO (COUNT is one less; is it 0, what it has in its places is LET GO");
        ThinVolumes x = new ThinVolumes();
        x.make(512, 512);
        x.fill(0, 0, 20, 1);
        x.make(512, 512);
        x.write(1, 0, 2);
        edges.yes("graft(1, 0, 2, 0, 0, 2), over a TWIG with three LEAVES", x.graft(1, 0, 2, 0, 0, 2));
        edges.due("is(1), its 20 BLOCKS are free", x.is(1), 1);
        edges.due("is(2), and its PARTS", x.is(2), 4);
        edges.yes("bring(0, 1), another TRUNK", x.bring(0, 1));
        edges.due("is(2)", x.is(2), 3);
        edges.yes("bring(0, 1), the same TRUNK", x.bring(0, 1));
        edges.due("of(0, 4)", x.of(0, 4), x.of(1, 4));
        edges.due("COUNT of it", x.ofPart(x.of(0, 4), 1), 2);
        edges.due("wrong()", x.wrong(), -1);
        x.take(0, false);
        edges.yes("graft(0, 0, 2, 2, 0, 2), what is there already", x.graft(0, 0, 2, 2, 0, 2));
        edges.due("is(2), a TRUNK alone is new", x.is(2), 4);
        edges.due("wrong()", x.wrong(), -1);
    }

    /** How many PARTS are new by a write to 0 at 0, with that kind shared and nothing above it: 3 for none at all. */
    private void opened(int kind, int want) {
        Scene scene = scene(x -> {
            x.make(512, 512);
            x.write(0, 0, 1);
            x.write(0, 1, 2);
            x.make(512, 512);
            if (kind == 2) x.take(0, true);
            else if (kind >= 0) x.graft(0, 0, kind, 1, 0, kind);
        });
        int were = scene.anew().is(2);
        ThinVolumes y = scene.yes("write(0, 0, 9)", x -> x.write(0, 0, 9));
        edges.due("PARTS more", y.is(2) - were, want);
        edges.due("block(0, 0)", y.block(0, 0), kind < 0 ? 0 : 2);
        edges.due("ofBlock(1, 1), the one beside it", y.ofBlock(1, 1), kind > 0 ? 2 : 1);
        edges.due("wrong()", y.wrong(), -1);
    }

    private void opened() {
        edges.terms("from the TRUNK down: is none there, a new PART is HUNG there; is one with COUNT above 1, "
            + "a new one with the same in all its places (each of these COUNTS one more) is HUNG there.");
        opened(-1, 0);
        opened(0, 0);
        opened(1, 1);
        opened(2, 3);
        Scene twig = scene(x -> {
            x.make(512, 512);
            x.write(0, 0, 1);
            x.write(0, 8, 2);
            x.make(512, 512);
            x.graft(0, 0, 2, 1, 0, 2);
        });
        ThinVolumes y = twig.yes("write(0, 0, 9), the TWIG is in two TRUNKS", x -> x.write(0, 0, 9));
        edges.due("is(2)", y.is(2), 7);
        edges.due("path(0, 8, 2), the other LEAF is in both TWIGS", y.path(0, 8, 2), y.path(1, 8, 2));
        edges.due("its COUNT", y.ofPart(y.path(0, 8, 2), 1), 2);
        edges.due("read(1, 0)", y.read(1, 0), 1);
        Scene none = scene(x -> x.make(512, 512));
        edges.due("is(2)", none.yes("write(0, 0, 9), none is there", x -> x.write(0, 0, 9)).is(2), 3);
    }

    private void closed() {
        edges.terms("CLOSED: from the LEAF up, one without anything in its places is LET GO, till one has some.");
        Scene scene = scene(x -> {
            x.make(512, 512);
            for (int address : new int[] {0, 7, 8, 64}) x.write(0, address, 1);
        });
        edges.due("is(2)", scene.yes("wipe(0, 0), the LEAF has one yet", x -> x.wipe(0, 0)).is(2), 6);
        edges.due("is(2)", scene.yes("wipe(0, 8), the TWIG has one yet", x -> x.wipe(0, 8)).is(2), 5);
        ThinVolumes y = scene.yes("wipe(0, 64), the TRUNK has one yet", x -> x.wipe(0, 64));
        edges.due("is(2)", y.is(2), 4);
        edges.due("place(0, 1)", y.place(0, 1), -1);
        edges.yes("size(0, 1)", y.size(0, 1));
        edges.yes("wipe(0, 0), the last one", y.wipe(0, 0));
        edges.due("is(2)", y.is(2), 0);
        edges.due("of(0, 4)", y.of(0, 4), -1);
    }

    private void written() {
        edges.terms("by LIKE 1, is there a BLOCK with that VALUE, the least one: it is HUNG there (is it there already: nothing); "
            + "else: is there a BLOCK with COUNT 1: it has that VALUE; else a new BLOCK with that VALUE is HUNG there.");
        Scene alike = scene(x -> {
            Scenes.plain(x);
            x.like(1);
        });
        ThinVolumes y = alike.yes("write(1, 1, 5), three BLOCKS have it", x -> x.write(1, 1, 5));
        edges.due("block(1, 1), the least one", y.block(1, 1), 0);
        edges.due("ofBlock(0, 1)", y.ofBlock(0, 1), 2);
        y = alike.yes("write(1, 0, 7), it is there already", x -> x.write(1, 0, 7));
        edges.due("ofBlock(4, 1)", y.ofBlock(4, 1), 1);
        y = alike.yes("write(1, 0, 5), what was there is free", x -> x.write(1, 0, 5));
        edges.due("ofBlock(4, 0)", y.ofBlock(4, 0), -1);
        y = alike.yes("write(1, 0, 99), none has it, COUNT 1", x -> x.write(1, 0, 99));
        edges.due("block(1, 0)", y.block(1, 0), 4);
        Scene twice = scene(x -> {
            Scenes.plain(x);
            x.like(1);
            x.write(1, 1, 7);
        });
        y = twice.yes("write(1, 0, 99), none has it, COUNT 2", x -> x.write(1, 0, 99));
        edges.due("block(1, 0), a new one", y.block(1, 0), 5);
        edges.due("read(1, 1)", y.read(1, 1), 7);
        y = plain.yes("write(1, 1, 5), LIKE 0", x -> x.write(1, 1, 5));
        edges.due("block(1, 1), a new one", y.block(1, 1), 5);
        Scene free = scene(x -> {
            Scenes.plain(x);
            x.wipe(1, 0);
            x.like(1);
        });
        y = free.yes("write(1, 5, 8), the BLOCK with 7 is free", x -> x.write(1, 5, 8));
        edges.due("block(1, 5)", y.block(1, 5), 4);
        edges.due("ofBlock(4, 0)", y.ofBlock(4, 0), 8);
    }

    private void cut() {
        edges.terms("CUT or grown to a SIZE: what is MAPPED from there on is WIPED, from the highest down.");
        Scene scene = scene(x -> {
            x.make(512, 512);
            for (int address : new int[] {0, 7, 8, 63, 64, 511}) x.write(0, address, address);
        });
        int[][] want = {{512, 6, 9}, {511, 5, 7}, {65, 5, 7}, {64, 4, 5}, {63, 3, 4}, {9, 3, 4}, {8, 2, 3}, {7, 1, 3}, {1, 1, 3}};
        for (int[] w : want) {
            ThinVolumes y = scene.yes("size(0, " + w[0] + ")", x -> x.size(0, w[0]));
            edges.due("of(0, 3)", y.of(0, 3), w[1]);
            edges.due("is(2)", y.is(2), w[2]);
            edges.due("read(0, SIZE)", y.read(0, w[0]), -1);
            edges.yes("size(0, 512) again", y.size(0, 512));
            edges.due("next(0, what was cut)", w[0] == 512 ? -1 : y.next(0, w[0]), -1);
        }
    }

    private void shared() {
        edges.terms("is it MAPPED there, its ADDRESS here is OPENED, that BLOCK is HUNG there (is it there already: nothing is HUNG); "
            + "else, is it MAPPED here, it is WIPED.");
        Scene scene = scene(x -> {
            Scenes.taken(x, false);
            x.write(1, 3, 8);
        });
        ThinVolumes y = scene.yes("share(0, 8, 2, 8, 1), it is there already", x -> x.share(0, 8, 2, 8, 1));
        edges.due("ofBlock(0, 1), in two LEAVES by being OPENED", y.ofBlock(0, 1), 2);
        edges.due("path(2, 8, 2), a LEAF of its own", y.path(2, 8, 2), 10);
        edges.due("is(2)", y.is(2), 11);
        y = scene.yes("share(0, 0, 1, 0, 1), MAPPED here alone", x -> x.share(0, 0, 1, 0, 1));
        edges.due("block(1, 0)", y.block(1, 0), -1);
        edges.due("ofBlock(4, 0)", y.ofBlock(4, 0), -1);
        y = scene.yes("share(0, 0, 2, 0, 1), MAPPED at neither", x -> x.share(0, 0, 2, 0, 1));
        edges.due("of(2, 4), nothing is OPENED", y.of(2, 4), 0);
        y = scene.yes("share(0, 7, 1, 2, 3), rising", x -> x.share(0, 7, 1, 2, 3));
        edges.due("block(1, 2)", y.block(1, 2), -1);
        edges.due("block(1, 3)", y.block(1, 3), 0);
        edges.due("block(1, 4)", y.block(1, 4), 1);
        edges.due("block(1, 5), n and no more", y.block(1, 5), -1);
    }

    private void filled() {
        edges.terms("FILLED, n (1 .. 64): ADDRESSES from one on, rising, each WRITTEN with one VALUE.");
        ThinVolumes y = plain.yes("fill(1, 7, 3, 8)", x -> x.fill(1, 7, 3, 8));
        edges.due("block(1, 6)", y.block(1, 6), -1);
        edges.due("block(1, 7)", y.block(1, 7), 5);
        edges.due("block(1, 9)", y.block(1, 9), 7);
        edges.due("block(1, 10)", y.block(1, 10), -1);
        Scene alike = scene(x -> {
            Scenes.plain(x);
            x.like(1);
        });
        y = alike.yes("fill(1, 7, 3, 8), LIKE 1", x -> x.fill(1, 7, 3, 8));
        edges.due("ofBlock(5, 1), the first makes it, the others share it", y.ofBlock(5, 1), 3);
        y = alike.yes("fill(1, 0, 3, 8), LIKE 1, over one with COUNT 1", x -> x.fill(1, 0, 3, 8));
        edges.due("ofBlock(4, 1), it has that VALUE, the others share it", y.ofBlock(4, 1), 3);
    }

    private void letGo() {
        edges.terms("those whose PARENT it was have its PARENT; there is none such any more.");
        ThinVolumes x = new ThinVolumes();
        x.make(5, 5);
        x.take(0, false);
        x.take(1, true);
        x.take(1, false);
        x.take(3, true);
        x.free(1);
        edges.due("of(2, 8)", x.of(2, 8), 0);
        edges.due("of(3, 8)", x.of(3, 8), 0);
        edges.due("of(4, 8), the child of a child has not", x.of(4, 8), 3);
        x.free(0);
        edges.due("of(2, 8), none", x.of(2, 8), -1);
        edges.due("take(4, true), its number is used again", x.take(4, true), 0);
        edges.due("children(0)", x.children(0), 0);
        edges.due("of(0, 8)", x.of(0, 8), 4);
        edges.due("children(4), VOLUME 0 alone", x.children(4), 1);
        x.free(4);
        edges.due("of(0, 8), a child with a lesser number", x.of(0, 8), 3);
        edges.due("prune(0), 0 and 2", x.prune(0), 2);
        edges.due("is(0)", x.is(0), 1);
    }

    private void atAnyTime() {
        edges.terms("What would need more BLOCKS, PARTS than are free at any time");
        scene(x -> {
            Scenes.parts(x, 0);
            x.stage(88, 1);
            x.stage(8, -1);
        }).no("commit(2), a LEAF is needed ahead of one being let go", x -> x.commit(2));
        scene(x -> {
            Scenes.parts(x, 0);
            x.stage(8, -1);
            x.stage(88, 1);
        }).yes("commit(2), one is let go first", x -> x.commit(2));
        scene(x -> {
            Scenes.blocks(x, 96);
            x.stage(96, 2);
            x.stage(0, -1);
        }).no("commit(0), a BLOCK is needed ahead of one being let go", x -> x.commit(0));
        scene(x -> {
            Scenes.blocks(x, 96);
            x.stage(0, -1);
            x.stage(96, 2);
        }).yes("commit(0), one is let go first", x -> x.commit(0));
        // 0 and 4 have all in common: to wipe, all the way is split first.
        Scene taken = scene(x -> {
            Scenes.parts(x, 2);
            x.take(2, false);
        });
        taken.no("wipe(2, 0), three PARTS on the way", x -> x.wipe(2, 0));
        taken.no("size(2, 8), three PARTS on the way", x -> x.size(2, 8));
        taken.no("move(2, 0, 1, 1), three PARTS on the way", x -> x.move(2, 0, 1, 1));
    }

    private void quotas() {
        edges.terms("or leave a VOLUME with more USED than its QUOTA");
        scene(x -> {
            Scenes.plain(x);
            x.quota(1, 1);
            x.stage(0, -1);
        }).yes("commit(1), past it on the way, not in the end", x -> x.commit(1));
        Scene shared = scene(x -> {
            Scenes.plain(x);
            x.write(1, 10, 1);
            x.quota(1, 2);
        });
        shared.yes("share(0, 10, 1, 9, 2), past it till 10 is WIPED", x -> x.share(0, 10, 1, 9, 2));
        shared.no("share(0, 9, 1, 9, 2), three are MAPPED then", x -> x.share(0, 9, 1, 9, 2));
        // On the way a BLOCK is MAPPED twice.
        scene(x -> {
            Scenes.plain(x);
            x.quota(1, 1);
        }).yes("move(1, 0, 19, 1), at its QUOTA", x -> x.move(1, 0, 19, 1));
        scene(x -> {
            x.make(5, 0);
            x.make(5, 5);
        }).yes("swap(0, 1), QUOTA 0, nothing MAPPED", x -> x.swap(0, 1));
    }

    private void reserves() {
        edges.terms("fewer BLOCKS free than all VOLUMES' RESERVES less their USED (0 at least, each) together");
        // 86 are free. 0 has 10 MAPPED; what it has more than its RESERVE helps no other one.
        Scene above = scene(x -> {
            Scenes.blocks(x, 10);
            x.reserve(0, 5);
        });
        above.yes("reserve(1, 86)", x -> x.reserve(1, 86));
        above.no("reserve(1, 87)", x -> x.reserve(1, 87));
        Scene both = scene(x -> {
            Scenes.blocks(x, 10);
            x.reserve(0, 50);
            x.reserve(1, 46);
        });
        both.yes("write(0, 10, 1), for itself", x -> x.write(0, 10, 1));
        both.yes("write(1, 0, 1), for itself", x -> x.write(1, 0, 1));
        Scene third = scene(x -> {
            Scenes.blocks(x, 10);
            x.reserve(0, 50);
            x.reserve(1, 46);
            x.make(5, 5);
        });
        third.no("write(2, 0, 1), all are RESERVED", x -> x.write(2, 0, 1));
        third.yes("share(0, 0, 2, 0, 1), no BLOCK is new", x -> x.share(0, 0, 2, 0, 1));
        third.no("needs(2, 0, 1, 0)", x -> x.needs(2, 0, 1, 0) != ThinVolumes.NONE);
        Scene one = scene(x -> {
            Scenes.blocks(x, 10);
            x.reserve(0, 50);
            x.reserve(1, 45);
            x.make(5, 5);
        });
        one.yes("write(2, 0, 1), one is not RESERVED", x -> x.write(2, 0, 1));
        one.no("fill(2, 0, 2, 1), two are needed", x -> x.fill(2, 0, 2, 1));
        // On the way none is free for 0; in the end the one that 2 had is free again.
        scene(x -> {
            Scenes.blocks(x, 10);
            x.make(5, 5);
            x.write(2, 0, 1);
            x.reserve(0, 95);
            x.stage(1, 1);
            x.stage(0, -1);
        }).yes("commit(2), as many in the end", x -> x.commit(2));
    }

    private void readOnly() {
        edges.terms("or is done to one that is READ ONLY (but TAKEN, LET GO, HOLDS), is not done at all");
        Scene open = scene(x -> Scenes.taken(x, false));
        Scene keeps = scene(x -> Scenes.taken(x, true));
        for (Deed deed : Deed.changes()) {
            open.does(deed.name() + ", not READ ONLY", deed.call(), deed.done());
            keeps.gives(deed.name() + ", READ ONLY", deed.call(), deed.refused());
        }
        for (Deed deed : Deed.others()) {
            open.does(deed.name() + ", not READ ONLY", deed.call(), deed.done());
            keeps.does(deed.name() + ", READ ONLY", deed.call(), deed.done());
        }
        open.does("prune(0), not READ ONLY", x -> x.prune(0), 0);
        keeps.does("prune(0), READ ONLY", x -> x.prune(0), 1);
        edges.due("send(2, 1)", keeps.anew().send(2, 1), 5);
        edges.due("send(1, 2)", keeps.anew().send(1, 2), 5);
    }

    private void noReserves() {
        edges.terms("(MADE, TAKEN, LET GO ask for no RESERVES)");
        Scene all = scene(x -> {
            Scenes.blocks(x, 10);
            x.bring(1, 0);
            x.reserve(0, 96);
        });
        edges.due("is(9)", all.anew().is(9), 86);
        all.does("make(5, 5)", x -> x.make(5, 5), 2);
        all.does("take(0, true)", x -> x.take(0, true), 2);
        all.does("take(1, false)", x -> x.take(1, false), 2);
        edges.due("is(9)", all.does("free(0)", x -> x.free(0), 0).is(9), 0);
        edges.due("is(9)", all.does("free(1)", x -> x.free(1), 0).is(9), 86);
    }

    private void streams() {
        edges.terms("it stays till the next one (SENT changes THE STREAM alone, a row of THE STAGE told this alone: "
            + "that is no STEP, goes also with a WRONG COUNT)");
        Scene spoilt = scene(x -> {
            Scenes.plain(x);
            x.spoil(4, 2);
        });
        ThinVolumes y = spoilt.anew();
        int steps = y.steps();
        edges.due("send(0, 1)", y.send(0, 1), 5);
        edges.due("stage(5, 50)", y.stage(5, 50), 3);
        edges.due("steps()", y.steps(), steps);
        edges.same("send, stage", Scene.state(x -> {
            Scenes.plain(x);
            x.spoil(4, 2);
            x.send(0, 1);
            x.stage(5, 50);
        }), spoilt.look());
        ThinVolumes z = plain.anew();
        z.receive(0);
        z.free(1);
        z.write(0, 8, 1);
        z.undo();
        z.back();
        z.send(3, 0);
        edges.due("is(10), it stays", z.is(10), 5);
        edges.due("stream(4, 1)", z.stream(4, 1), 6);
        edges.terms("row by row WRITTEN, or WIPED (if it is MAPPED; ADDRESSES from SIZE on: it can't be)");
        Scene rows = scene(x -> {
            x.make(10, 10);
            x.write(0, 0, 1);
            x.stage(9, 1);
            x.stage(9, 2);
            x.stage(0, -1);
            x.stage(0, -1);
            x.stage(1, -1);
        });
        edges.due("read(0, 9), the later row", rows.yes("commit(0)", x -> x.commit(0)).read(0, 9), 2);
        scene(x -> {
            x.make(9, 9);
            x.stage(0, 1);
            x.stage(9, -1);
        }).no("commit(0), 9 is from SIZE on", x -> x.commit(0));
    }

    private void moved() {
        edges.terms("MOVED within a VOLUME, n (1 .. 64) ADDRESSES from one to another one (all below SIZE, none in both): "
            + "rising, as SHARED of itself, then, is it MAPPED there, it is WIPED.");
        ThinVolumes y = plain.yes("move(0, 9, 8, 1), over the one ahead", x -> x.move(0, 9, 8, 1));
        edges.due("block(0, 8)", y.block(0, 8), 1);
        edges.due("block(0, 9)", y.block(0, 9), -1);
        edges.due("block(2, 8), the taken one has it yet", y.block(2, 8), 0);
        y = plain.yes("move(0, 11, 8, 3), nothing over three", x -> x.move(0, 11, 8, 3));
        edges.due("of(0, 3), they are WIPED", y.of(0, 3), 1);
        y = plain.yes("move(1, 0, 1, 1), its own BLOCK", x -> x.move(1, 0, 1, 1));
        edges.due("block(1, 1)", y.block(1, 1), 4);
        edges.due("ofBlock(4, 1)", y.ofBlock(4, 1), 1);
        edges.due("is(2), no PART is new", y.is(2), 8);
    }

    private void staged() {
        edges.terms("rows of an ADDRESS (0 .. 511) and a VALUE or none, 16 at most");
        Scene fifteen = scene(x -> {
            for (int i = 0; i < 15; i++) x.stage(511, 999999);
        });
        edges.due("stage(0, -1)", fifteen.anew().stage(0, -1), 16);
        edges.due("stage(511, 0)", fifteen.anew().stage(511, 0), 16);
        fifteen.none("stage(512, 0)", x -> x.stage(512, 0));
        fifteen.none("stage(0, -2)", x -> x.stage(0, -2));
        edges.terms("THE STAGE has none then.");
        ThinVolumes y = fifteen.anew();
        y.make(512, 1);
        edges.yes("commit(0)", y.commit(0));
        edges.due("is(11)", y.is(11), 0);
        edges.due("staged(0, 0)", y.staged(0, 0), -2);
    }

    private void whileWrong() {
        edges.terms("As long as one is WRONG, nothing is done by hand but SPOILT, MENDED and STEPS taken back.");
        Scene spoilt = scene(x -> {
            Scenes.taken(x, false);
            x.spoil(4, 2);
        });
        for (Deed deed : Deed.changes()) spoilt.gives(deed.name() + ", one is WRONG", deed.call(), deed.refused());
        for (Deed deed : Deed.others()) spoilt.gives(deed.name() + ", one is WRONG", deed.call(), deed.refused());
        spoilt.none("prune(0), one is WRONG", x -> x.prune(0));
        spoilt.yes("spoil(4, 3)", x -> x.spoil(4, 3));
        spoilt.does("mend()", ThinVolumes::mend, 1);
        edges.yes("undo()", spoilt.anew().undo() >= 0);
        edges.terms("WRONG: one whose COUNT isn't in how many places it is.");
        Scene right = scene(x -> {
            Scenes.taken(x, false);
            x.spoil(4, 2);
            x.spoil(4, 1);
        });
        for (Deed deed : Deed.changes()) right.does(deed.name() + ", right again", deed.call(), deed.done());
        for (Deed deed : Deed.others()) right.does(deed.name() + ", right again", deed.call(), deed.done());
        Scene two = scene(x -> {
            Scenes.taken(x, false);
            x.spoil(4, 2);
            x.spoil(3, 2);
            x.spoil(4, 1);
        });
        two.no("like(1), another one is WRONG yet", x -> x.like(1));
        scene(x -> {
            Scenes.taken(x, false);
            x.spoil(4, 2);
            x.undo();
        }).yes("like(1), taken back", x -> x.like(1));
    }

    private void steps() {
        edges.terms("STEPS that are taken back: all that is done by hand (also if it changed nothing but a number that was told as it is): "
            + "the latest 16, the latest first (all is as ahead of it, but THE STREAM, THE STAGE).");
        plain.yes("quota(0, 50), as it is", x -> x.quota(0, 50));
        plain.yes("reserve(0, 0), as it is", x -> x.reserve(0, 0));
        plain.yes("size(0, 100), as it is", x -> x.size(0, 100));
        plain.yes("like(0), as it is", x -> x.like(0));
        plain.yes("spoil(0, 1), as it is", x -> x.spoil(0, 1));
        plain.yes("write(1, 0, 7), as it is", x -> x.write(1, 0, 7));
        ThinVolumes x = new ThinVolumes();
        x.make(100, 100);
        for (int i = 0; i < 17; i++) x.quota(0, i);
        for (int i = 15; i >= 0; i--) {
            edges.due("undo()", x.undo(), i);
            edges.due("of(0, 1), the latest first", x.of(0, 1), i);
        }
        edges.due("undo(), a 17th", x.undo(), -1);
        edges.due("of(0, 1)", x.of(0, 1), 0);
    }

    private void alone() {
        edges.terms("ALONE of a VOLUME: BLOCKS that would be free, were it LET GO (as COUNTS are).");
        Scene own = scene(x -> {
            Scenes.taken(x, false);
            x.write(2, 8, 1);
        });
        int[] want = {1, 1, 1};
        for (int volume = 0; volume <= 2; volume++) {
            int its = volume;
            own.gives("of(" + volume + ", 5)", x -> x.of(its, 5), want[volume]);
        }
        Scene twice = scene(x -> {
            x.make(20, 20);
            x.like(1);
            x.fill(0, 0, 3, 1);
        });
        twice.gives("of(0, 5), one BLOCK in three places", x -> x.of(0, 5), 1);
        Scene high = scene(x -> {
            x.make(20, 20);
            x.like(1);
            x.fill(0, 0, 3, 1);
            x.spoil(0, 4);
        });
        high.gives("of(0, 5), a COUNT too high", x -> x.of(0, 5), 0);
        Scene held = scene(x -> {
            x.make(20, 20);
            x.write(0, 0, 1);
            x.hold(0, true);
        });
        held.gives("of(0, 5), with a HOLD", x -> x.of(0, 5), 1);
    }

    private void walked() {
        edges.terms("what is the same PART (or none) on both sides is not walked");
        // 2 has a LEAF of its own at 8, and with 0 the TWIG at 64.
        Scene scene = scene(x -> {
            Scenes.taken(x, false);
            x.write(2, 8, 1);
            x.write(2, 16, 1);
        });
        scene.gives("walked(0, 2), a LEAF against none, too", x -> x.walked(0, 2), 4);
        scene.gives("differs(0, 2, -1)", x -> x.differs(0, 2, -1), 2);
        Scene back = scene(x -> {
            Scenes.taken(x, false);
            x.write(2, 8, 1);
            x.share(0, 8, 2, 8, 1);
        });
        back.gives("walked(0, 2), unlike PARTS with the same BLOCKS", x -> x.walked(0, 2), 3);
        back.gives("differs(0, 2, -1)", x -> x.differs(0, 2, -1), 0);
    }

    private void image() {
        edges.terms("AN IMAGE: all as it is (but THE STREAM, THE STAGE). BACK: all is so again.");
        for (Deed deed : Deed.changes()) backFrom(deed);
        for (Deed deed : Deed.others()) backFrom(deed);
        ThinVolumes x = new ThinVolumes();
        Scenes.taken(x, false);
        x.image();
        int rows = x.is(10);
        x.send(0, 2);
        x.commit(2);
        x.back();
        edges.due("is(10), THE STREAM is not as it was", x.is(10), 0);
        edges.no("it had rows", rows == 0);
        edges.due("is(11), nor THE STAGE", x.is(11), 0);
    }

    private void backFrom(Deed deed) {
        edges.same(deed.name() + ", then back()", Scene.state(x -> {
            Scenes.taken(x, false);
            x.image();
            deed.call().on(x);
            x.back();
        }), Scene.state(x -> Scenes.taken(x, false)));
    }
}
