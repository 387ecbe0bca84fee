/** Edges of promises 1 to 8, 12 to 14, 23: volumes made, taken, written, wiped, brought back, cut, let go. */
final class VolumeEdges {
    private final Edges edges;
    private final Scene plain;

    VolumeEdges(Edges edges) {
        this.edges = edges;
        plain = new Scene(edges, Scenes::plain);
    }

    void look() {
        anew();
        make();
        take();
        write();
        writeWithoutRoom();
        wipe();
        wipeThatCannotBe();
        bring();
        size();
        quota();
        reserve();
        hold();
        prune();
        free();
    }

    private Scene scene(Scene.Made made) {
        return new Scene(edges, made);
    }

    private void anew() {
        edges.promise(1, "No VOLUMES; THE IMAGE is this.");
        Scene fresh = scene(x -> { });
        for (int what = 0; what <= 11; what++) {
            int asked = what;
            fresh.gives("is(" + what + ")", x -> x.is(asked), 0);
        }
        for (int volume = 0; volume <= 11; volume++) {
            int asked = volume;
            fresh.none("of(" + volume + ", 0)", x -> x.of(asked, 0));
        }
        fresh.gives("steps()", ThinVolumes::steps, 0);
        fresh.gives("back()", ThinVolumes::back, 0);
        ThinVolumes y = new ThinVolumes();
        y.make(5, 5);
        y.write(0, 0, 3);
        edges.due("back() where no image was taken", y.back(), 0);
        edges.due("is(8) then", y.is(8), 0);
        edges.same("back()", Scene.state(z -> {
            z.make(5, 5);
            z.write(0, 0, 3);
            z.like(1);
            z.back();
        }), fresh.look());
    }

    private void make() {
        edges.promise(2, "MADE: its number.");
        ThinVolumes y = plain.does("make(1, 0), the least SIZE and QUOTA", x -> x.make(1, 0), 3);
        edges.due("of(3, 0)", y.of(3, 0), 1);
        edges.due("of(3, 1)", y.of(3, 1), 0);
        edges.due("is(0)", y.is(0), 4);
        y = plain.does("make(512, 512)", x -> x.make(512, 512), 3);
        int[] want = {512, 512, 0, 0, -1, 0, 0, 0, -1, 3, 0, 0};
        for (int what = 0; what < 12; what++) edges.due("of(3, " + what + ") then", y.of(3, what), want[what]);
        scene(x -> {
            Scenes.plain(x);
            x.make(9, 9);
            x.free(1);
        }).does("make(5, 5) with 1 let go", x -> x.make(5, 5), 1);

        edges.promise(2, "NONE for others, or if there are 12.");
        for (int size : new int[] {Integer.MIN_VALUE, -1, 0, 513, Integer.MAX_VALUE}) {
            plain.none("make(" + size + ", 5)", x -> x.make(size, 5));
        }
        for (int quota : new int[] {Integer.MIN_VALUE, -1, 513, Integer.MAX_VALUE}) {
            plain.none("make(5, " + quota + ")", x -> x.make(5, quota));
        }
        Scene twelve = scene(Scenes::twelve);
        twelve.none("make(5, 5), the 13th", x -> x.make(5, 5));
        scene(x -> {
            Scenes.twelve(x);
            x.free(11);
        }).does("make(5, 5), the 12th", x -> x.make(5, 5), 11);
        scene(x -> {
            Scenes.twelve(x);
            x.free(0);
        }).does("make(5, 5), the 12th, by the least number", x -> x.make(5, 5), 0);
    }

    private void take() {
        edges.promise(3, "TAKEN (READ ONLY: keeps): its number.");
        edges.due("of(3, 2)", plain.does("take(0, true)", x -> x.take(0, true), 3).of(3, 2), 1);
        ThinVolumes y = plain.does("take(2, false), of one that is READ ONLY, with a HOLD", x -> x.take(2, false), 3);
        int[] want = {100, 50, 0, 4, 0, 0, 0, 0, 2, 3, 2, 2};
        for (int what = 0; what < 12; what++) edges.due("of(3, " + what + ") then", y.of(3, what), want[what]);
        Scene reserved = scene(x -> {
            Scenes.plain(x);
            x.reserve(1, 92);
        });
        edges.due("of(3, 6)", reserved.does("take(1, false), of one with RESERVE", x -> x.take(1, false), 3).of(3, 6), 0);

        edges.promise(3, "NONE for others, or if there are 12.");
        for (int volume : Scenes.NO_VOLUMES) {
            plain.none("take(" + volume + ", true)", x -> x.take(volume, true));
        }
        Scene twelve = scene(Scenes::twelve);
        twelve.none("take(0, false), the 13th", x -> x.take(0, false));
        twelve.none("take(11, true), the 13th", x -> x.take(11, true));
        scene(x -> {
            Scenes.twelve(x);
            x.free(5);
        }).does("take(11, true), the 12th", x -> x.take(11, true), 5);
    }

    private void write() {
        edges.promise(4, "WRITTEN: true.");
        edges.due("read(0, 0)", plain.yes("write(0, 0, 999999)", x -> x.write(0, 0, 999999)).read(0, 0), 999999);
        edges.due("block(0, 98)", plain.yes("write(0, 98, 0)", x -> x.write(0, 98, 0)).block(0, 98), 5);
        ThinVolumes y = plain.yes("write(0, 99, 1), the last ADDRESS, of a shared BLOCK", x -> x.write(0, 99, 1));
        edges.due("block(0, 99)", y.block(0, 99), 5);
        edges.due("read(2, 99)", y.read(2, 99), 6);
        y = plain.yes("write(1, 0, 8), a BLOCK with COUNT 1", x -> x.write(1, 0, 8));
        edges.due("block(1, 0)", y.block(1, 0), 4);
        plain.yes("write(1, 0, 7), as it is", x -> x.write(1, 0, 7));

        edges.promise(4, "False, if it can't be, and for others.");
        for (int volume : Scenes.NO_VOLUMES) plain.no("write(" + volume + ", 0, 1)", x -> x.write(volume, 0, 1));
        for (int address : new int[] {Integer.MIN_VALUE, -1, 100, 511, 512, Integer.MAX_VALUE}) {
            plain.no("write(0, " + address + ", 1)", x -> x.write(0, address, 1));
        }
        for (int value : Scenes.NO_VALUES) plain.no("write(0, 0, " + value + ")", x -> x.write(0, 0, value));
        plain.no("write(2, 8, 1), READ ONLY", x -> x.write(2, 8, 1));
        Scene quota = scene(x -> {
            Scenes.plain(x);
            x.quota(0, 5);
        });
        quota.yes("write(0, 0, 1), to its QUOTA", x -> x.write(0, 0, 1));
        Scene reached = scene(x -> {
            Scenes.plain(x);
            x.quota(0, 4);
        });
        reached.no("write(0, 0, 1), past its QUOTA", x -> x.write(0, 0, 1));
        reached.yes("write(0, 99, 1), one that is MAPPED, at its QUOTA", x -> x.write(0, 99, 1));
        Scene nothing = scene(x -> x.make(1, 0));
        nothing.no("write(0, 0, 0), QUOTA 0", x -> x.write(0, 0, 0));
    }

    /** Not a BLOCK, not a PART more than are free; not one that is RESERVED. */
    private void writeWithoutRoom() {
        edges.promise(4, "False, if it can't be, and for others.");
        edges.due("is(1)", scene(x -> Scenes.blocks(x, 95)).yes("write(0, 95, 2), the last BLOCK", x -> x.write(0, 95, 2)).is(1), 96);
        Scene full = scene(x -> Scenes.blocks(x, 96));
        full.no("write(0, 96, 2), no BLOCK", x -> x.write(0, 96, 2));
        full.no("write(1, 0, 2), no BLOCK", x -> x.write(1, 0, 2));
        full.yes("write(0, 95, 2), its own BLOCK", x -> x.write(0, 95, 2));
        Scene partFree = scene(x -> {
            x.make(512, 512);
            x.make(512, 512);
            x.write(0, 0, 1);
            x.fill(1, 0, 64, 1);
            x.fill(1, 64, 31, 1);
            x.free(0);
            x.write(1, 95, 1);
        });
        edges.due("ofPart(0, 0)", partFree.anew().ofPart(0, 0), -1);
        partFree.no("write(1, 96, 2), no BLOCK, PART 0 is free", x -> x.write(1, 96, 2));
        Scene alike = scene(x -> {
            Scenes.blocks(x, 96);
            x.like(1);
        });
        alike.yes("write(0, 96, 1), LIKE 1, with a BLOCK that there is", x -> x.write(0, 96, 1));
        alike.no("write(0, 96, 2), LIKE 1, with none such", x -> x.write(0, 96, 2));
        Scene shared = scene(x -> {
            Scenes.blocks(x, 96);
            x.take(0, false);
        });
        shared.no("write(0, 0, 2), its BLOCK is in two LEAVES then", x -> x.write(0, 0, 2));

        edges.due("is(2)", scene(x -> Scenes.parts(x, 3)).yes("write(3, 0, 1), the last three PARTS", x -> x.write(3, 0, 1)).is(2), 160);
        scene(x -> Scenes.parts(x, 2)).no("write(3, 0, 1), no LEAF", x -> x.write(3, 0, 1));
        scene(x -> Scenes.parts(x, 1)).no("write(3, 0, 1), no TWIG", x -> x.write(3, 0, 1));
        Scene none = scene(x -> Scenes.parts(x, 0));
        none.no("write(3, 0, 1), no TRUNK", x -> x.write(3, 0, 1));
        none.no("write(2, 96, 1), no LEAF", x -> x.write(2, 96, 1));
        none.yes("write(2, 1, 1), where no PART is new", x -> x.write(2, 1, 1));
        scene(x -> Scenes.parts(x, 2)).yes("write(2, 128, 1), a TWIG and a LEAF", x -> x.write(2, 128, 1));
        scene(x -> Scenes.parts(x, 1)).no("write(2, 128, 1), no LEAF for it", x -> x.write(2, 128, 1));
        scene(x -> Scenes.parts(x, 1)).yes("write(2, 88, 1), a LEAF", x -> x.write(2, 88, 1));

        Scene held = scene(x -> {
            Scenes.blocks(x, 10);
            x.reserve(0, 95);
        });
        held.yes("write(1, 0, 1), the one that is not RESERVED", x -> x.write(1, 0, 1));
        Scene all = scene(x -> {
            Scenes.blocks(x, 10);
            x.reserve(0, 96);
        });
        all.no("write(1, 0, 1), all are RESERVED", x -> x.write(1, 0, 1));
        all.yes("write(0, 10, 1), for itself", x -> x.write(0, 10, 1));
    }

    private void wipe() {
        edges.promise(5, "WIPED: true.");
        edges.due("next(0, 0)", plain.yes("wipe(0, 8)", x -> x.wipe(0, 8)).next(0, 0), 9);
        edges.due("next(0, 11)", plain.yes("wipe(0, 99), the last ADDRESS", x -> x.wipe(0, 99)).next(0, 11), -1);
        edges.due("of(1, 4)", plain.yes("wipe(1, 0), the only one", x -> x.wipe(1, 0)).of(1, 4), -1);
        Scene zero = scene(x -> {
            Scenes.plain(x);
            x.write(1, 19, 0);
        });
        edges.due("of(1, 3)", zero.yes("wipe(1, 19), a VALUE of 0 is MAPPED, too", x -> x.wipe(1, 19)).of(1, 3), 1);

        edges.promise(5, "False, if it is not MAPPED, can't be, and for others.");
        for (int address : new int[] {7, 11, 0, 98}) plain.no("wipe(0, " + address + "), not MAPPED", x -> x.wipe(0, address));
        plain.no("wipe(1, 19), not MAPPED", x -> x.wipe(1, 19));
        scene(x -> {
            Scenes.plain(x);
            x.wipe(0, 8);
        }).no("wipe(0, 8) once more", x -> x.wipe(0, 8));
        for (int address : new int[] {Integer.MIN_VALUE, -1, 20, 512, Integer.MAX_VALUE}) {
            plain.no("wipe(1, " + address + ")", x -> x.wipe(1, address));
        }
        for (int volume : Scenes.NO_VOLUMES) plain.no("wipe(" + volume + ", 8)", x -> x.wipe(volume, 8));
    }

    private void wipeThatCannotBe() {
        edges.promise(5, "False, if it is not MAPPED, can't be, and for others.");
        plain.no("wipe(2, 8), READ ONLY", x -> x.wipe(2, 8));
        Scene three = scene(x -> {
            Scenes.parts(x, 3);
            x.take(0, false);
        });
        three.yes("wipe(0, 5), three PARTS are split", x -> x.wipe(0, 5));
        Scene two = scene(x -> {
            Scenes.parts(x, 2);
            x.take(0, false);
        });
        two.no("wipe(0, 5), a LEAF fewer", x -> x.wipe(0, 5));
        scene(x -> Scenes.parts(x, 0)).yes("wipe(0, 5), nothing is split", x -> x.wipe(0, 5));
        // Wiped, 0 is short of one BLOCK more; one that is in 1, too, isn't free by it.
        scene(x -> {
            Scenes.blocks(x, 10);
            x.bring(1, 0);
            x.reserve(0, 96);
        }).no("wipe(0, 5), a shared BLOCK, all others RESERVED", x -> x.wipe(0, 5));
        scene(x -> {
            Scenes.blocks(x, 10);
            x.bring(1, 0);
            x.reserve(0, 95);
        }).yes("wipe(0, 5), one is not RESERVED", x -> x.wipe(0, 5));
        scene(x -> {
            Scenes.blocks(x, 10);
            x.reserve(0, 96);
        }).yes("wipe(0, 5), the BLOCK is free by it", x -> x.wipe(0, 5));
    }

    private void bring() {
        edges.promise(6, "BROUGHT BACK to another one: true.");
        ThinVolumes y = plain.yes("bring(1, 0)", x -> x.bring(1, 0));
        int[] want = {100, 10, 0, 4, 0, 0, 0, 0, -1, 1, 0, 2};
        for (int what = 0; what < 12; what++) edges.due("of(1, " + what + ") then", y.of(1, what), want[what]);
        edges.due("BLOCK 4 is free", y.ofBlock(4, 0), -1);
        plain.yes("bring(0, 2), to one that is READ ONLY, of the same TRUNK", x -> x.bring(0, 2));
        Scene empty = scene(x -> {
            Scenes.plain(x);
            x.make(1, 0);
        });
        edges.due("of(1, 4)", empty.yes("bring(1, 3), to an empty one", x -> x.bring(1, 3)).of(1, 4), -1);
        empty.no("bring(3, 0), QUOTA 0", x -> x.bring(3, 0));

        edges.promise(6, "False, if it can't be, and for others (like ones, too).");
        for (int volume = 0; volume <= 2; volume++) {
            int like = volume;
            plain.no("bring(" + like + ", " + like + ")", x -> x.bring(like, like));
        }
        for (int volume : Scenes.NO_VOLUMES) {
            plain.no("bring(" + volume + ", 0)", x -> x.bring(volume, 0));
            plain.no("bring(0, " + volume + ")", x -> x.bring(0, volume));
            plain.no("bring(" + volume + ", " + volume + ")", x -> x.bring(volume, volume));
        }
        plain.no("bring(2, 1), READ ONLY", x -> x.bring(2, 1));
        scene(x -> {
            Scenes.plain(x);
            x.quota(1, 4);
        }).yes("bring(1, 0), to its QUOTA", x -> x.bring(1, 0));
        scene(x -> {
            Scenes.plain(x);
            x.quota(1, 3);
        }).no("bring(1, 0), past its QUOTA", x -> x.bring(1, 0));
        // 84 BLOCKS are free; none more by it, as the 10 of 0 are in 2, too; it has 2 MAPPED then.
        scene(x -> {
            Scenes.blocks(x, 10);
            x.fill(1, 0, 2, 1);
            x.take(0, true);
            x.reserve(0, 86);
        }).yes("bring(0, 1), as many are free as are RESERVED", x -> x.bring(0, 1));
        scene(x -> {
            Scenes.blocks(x, 10);
            x.fill(1, 0, 2, 1);
            x.take(0, true);
            x.reserve(0, 87);
        }).no("bring(0, 1), one fewer is free", x -> x.bring(0, 1));
    }

    private void size() {
        edges.promise(7, "CUT, grown: true.");
        edges.due("of(0, 0)", plain.yes("size(0, 512)", x -> x.size(0, 512)).of(0, 0), 512);
        edges.due("of(0, 3)", plain.yes("size(0, 100), as it is", x -> x.size(0, 100)).of(0, 3), 4);
        edges.due("read(0, 99)", plain.yes("size(0, 101)", x -> x.size(0, 101)).read(0, 99), 6);
        edges.due("of(0, 3)", plain.yes("size(0, 99)", x -> x.size(0, 99)).of(0, 3), 3);
        edges.due("of(0, 3)", plain.yes("size(0, 11)", x -> x.size(0, 11)).of(0, 3), 3);
        edges.due("of(0, 3)", plain.yes("size(0, 10)", x -> x.size(0, 10)).of(0, 3), 2);
        edges.due("of(0, 4)", plain.yes("size(0, 8)", x -> x.size(0, 8)).of(0, 4), -1);
        ThinVolumes y = plain.yes("size(1, 1)", x -> x.size(1, 1));
        edges.due("read(1, 0)", y.read(1, 0), 7);
        edges.due("read(1, 1)", y.read(1, 1), -1);
        edges.yes("size(1, 2) again", y.size(1, 2));
        edges.due("read(1, 1)", y.read(1, 1), 0);

        edges.promise(7, "False, if it can't be, and for others.");
        for (int size : new int[] {Integer.MIN_VALUE, -1, 0, 513, Integer.MAX_VALUE}) {
            plain.no("size(0, " + size + ")", x -> x.size(0, size));
        }
        for (int volume : Scenes.NO_VOLUMES) plain.no("size(" + volume + ", 5)", x -> x.size(volume, 5));
        plain.no("size(2, 5), READ ONLY", x -> x.size(2, 5));
        plain.no("size(2, 200), READ ONLY", x -> x.size(2, 200));
        scene(x -> {
            Scenes.parts(x, 3);
            x.take(0, false);
        }).yes("size(0, 511), three PARTS are split", x -> x.size(0, 511));
        Scene two = scene(x -> {
            Scenes.parts(x, 2);
            x.take(0, false);
        });
        two.no("size(0, 511), a PART fewer", x -> x.size(0, 511));
        // In the end it would need none; on the way it needs three.
        two.no("size(0, 1), a PART fewer", x -> x.size(0, 1));
        two.yes("size(0, 512), nothing is split", x -> x.size(0, 512));
        scene(x -> {
            Scenes.blocks(x, 10);
            x.bring(1, 0);
            x.reserve(0, 94);
        }).yes("size(0, 8), two are not RESERVED", x -> x.size(0, 8));
        scene(x -> {
            Scenes.blocks(x, 10);
            x.bring(1, 0);
            x.reserve(0, 94);
        }).no("size(0, 7), three were needed", x -> x.size(0, 7));
    }

    private void quota() {
        edges.promise(8, "QUOTA told (0 .. 512, USED at least): true.");
        edges.due("of(0, 1)", plain.yes("quota(0, 4), USED", x -> x.quota(0, 4)).of(0, 1), 4);
        edges.due("of(0, 1)", plain.yes("quota(0, 512)", x -> x.quota(0, 512)).of(0, 1), 512);
        plain.yes("quota(0, 50), as it is", x -> x.quota(0, 50));
        Scene empty = scene(x -> x.make(1, 5));
        edges.due("of(0, 1)", empty.yes("quota(0, 0)", x -> x.quota(0, 0)).of(0, 1), 0);
        empty.yes("quota(0, 512), above its SIZE", x -> x.quota(0, 512));

        edges.promise(8, "False for others.");
        for (int quota : new int[] {Integer.MIN_VALUE, -1, 0, 3, 513, Integer.MAX_VALUE}) {
            plain.no("quota(0, " + quota + ")", x -> x.quota(0, quota));
        }
        for (int volume : Scenes.NO_VOLUMES) plain.no("quota(" + volume + ", 60)", x -> x.quota(volume, 60));
        plain.no("quota(2, 60), READ ONLY", x -> x.quota(2, 60));
        plain.no("quota(2, 50), READ ONLY, as it is", x -> x.quota(2, 50));
        empty.no("quota(0, -1)", x -> x.quota(0, -1));
    }

    private void reserve() {
        edges.promise(12, "RESERVE told (0 .. 96): true.");
        edges.due("of(0, 6)", plain.yes("reserve(0, 0), as it is", x -> x.reserve(0, 0)).of(0, 6), 0);
        ThinVolumes y = scene(x -> x.make(1, 0)).yes("reserve(0, 96), all of them", x -> x.reserve(0, 96));
        edges.due("of(0, 6)", y.of(0, 6), 96);
        edges.due("is(9)", y.is(9), 96);
        y = scene(x -> Scenes.blocks(x, 96)).yes("reserve(0, 96), all are its own", x -> x.reserve(0, 96));
        edges.due("is(9)", y.is(9), 0);

        edges.promise(12, "False, if it can't be, and for others.");
        for (int blocks : new int[] {Integer.MIN_VALUE, -1, 97, Integer.MAX_VALUE}) {
            plain.no("reserve(0, " + blocks + ")", x -> x.reserve(0, blocks));
            scene(x -> x.make(1, 0)).no("reserve(0, " + blocks + "), all are free", x -> x.reserve(0, blocks));
        }
        // All ADDRESSES are MAPPED, with one BLOCK: whatever is RESERVED, none need be free for it.
        Scene mapped = scene(x -> Scenes.parts(x, 14));
        mapped.yes("reserve(0, 96), all are MAPPED", x -> x.reserve(0, 96));
        mapped.no("reserve(0, 97), all are MAPPED", x -> x.reserve(0, 97));
        for (int volume : Scenes.NO_VOLUMES) plain.no("reserve(" + volume + ", 1)", x -> x.reserve(volume, 1));
        plain.no("reserve(2, 1), READ ONLY", x -> x.reserve(2, 1));
        plain.no("reserve(2, 0), READ ONLY, as it is", x -> x.reserve(2, 0));
        // 91 of 96 are free; 0 has 4 MAPPED, 1 has one.
        plain.yes("reserve(0, 95), 91 more", x -> x.reserve(0, 95));
        plain.no("reserve(0, 96), 92 more", x -> x.reserve(0, 96));
        plain.yes("reserve(1, 92), 91 more", x -> x.reserve(1, 92));
        plain.no("reserve(1, 93), 92 more", x -> x.reserve(1, 93));
        Scene both = scene(x -> {
            Scenes.plain(x);
            x.reserve(0, 50);
        });
        both.yes("reserve(1, 46), 45 and 46 more", x -> x.reserve(1, 46));
        both.no("reserve(1, 47), 46 and 46 more", x -> x.reserve(1, 47));
    }

    private static void holds(ThinVolumes x, int holds) {
        Scenes.plain(x);
        for (int i = 0; i < holds; i++) x.hold(0, true);
    }

    private void hold() {
        edges.promise(13, "HOLDS one more (more), one less: how many.");
        edges.due("of(0, 7)", plain.does("hold(0, true)", x -> x.hold(0, true), 1).of(0, 7), 1);
        edges.due("of(2, 7)", plain.does("hold(2, false), READ ONLY", x -> x.hold(2, false), 0).of(2, 7), 0);
        plain.does("hold(2, true), READ ONLY", x -> x.hold(2, true), 2);
        edges.due("of(0, 7)", scene(x -> holds(x, 8)).does("hold(0, true), the ninth", x -> x.hold(0, true), 9).of(0, 7), 9);
        scene(x -> holds(x, 9)).does("hold(0, false) of nine", x -> x.hold(0, false), 8);
        scene(x -> holds(x, 1)).does("hold(0, false) of one", x -> x.hold(0, false), 0);

        edges.promise(13, "NONE: not 0 .. 9 then, and for others.");
        scene(x -> holds(x, 9)).none("hold(0, true), a tenth", x -> x.hold(0, true));
        plain.none("hold(0, false) of none", x -> x.hold(0, false));
        for (int volume : Scenes.NO_VOLUMES) {
            plain.none("hold(" + volume + ", true)", x -> x.hold(volume, true));
            plain.none("hold(" + volume + ", false)", x -> x.hold(volume, false));
        }
    }

    /** READ ONLY: 2, 4, 5, 1 (as they were BORN), 4 with a HOLD; 3 is not. */
    private static void snapshots(ThinVolumes x) {
        x.make(50, 50);
        x.write(0, 0, 1);
        for (int volume = 1; volume <= 5; volume++) x.take(0, volume != 3);
        x.free(1);
        x.take(0, true);
        x.hold(4, true);
    }

    private void prune() {
        Scene snapshots = scene(VolumeEdges::snapshots);
        edges.promise(14, "PRUNED: how many were LET GO.");
        snapshots.does("prune(12)", x -> x.prune(12), 0);
        snapshots.does("prune(3), as many as there are", x -> x.prune(3), 0);
        ThinVolumes y = snapshots.does("prune(2), one fewer", x -> x.prune(2), 1);
        edges.due("2, BORN ahead of all others, is gone", y.children(0), 2 + 8 + 16 + 32);
        y = snapshots.does("prune(1)", x -> x.prune(1), 2);
        edges.due("5, too; 1 was BORN latest", y.children(0), 2 + 8 + 16);
        y = snapshots.does("prune(0)", x -> x.prune(0), 3);
        edges.due("3, that isn't READ ONLY, and 4, that has a HOLD, stay", y.children(0), 8 + 16);
        scene(x -> { }).does("prune(0) of none", x -> x.prune(0), 0);
        Scene first = scene(x -> {
            x.make(5, 5);
            x.take(0, true);
            x.take(0, true);
            x.free(0);
            x.take(1, true);
        });
        y = first.does("prune(1), VOLUME 0 was BORN latest", x -> x.prune(1), 2);
        edges.due("of(0, 9)", y.of(0, 9), 3);
        edges.due("is(0)", y.is(0), 1);
        scene(x -> {
            x.make(5, 5);
            for (int i = 1; i < 12; i++) x.take(0, true);
        }).does("prune(10) of eleven", x -> x.prune(10), 1);

        edges.promise(14, "NONE for others.");
        for (int n : new int[] {Integer.MIN_VALUE, -1, 13, Integer.MAX_VALUE}) snapshots.none("prune(" + n + ")", x -> x.prune(n));
    }

    private void free() {
        edges.promise(23, "LET GO: how many BLOCKS are free by it.");
        edges.due("of(1, 0)", plain.does("free(1), one BLOCK alone", x -> x.free(1), 1).of(1, 0), -1);
        ThinVolumes y = plain.does("free(0), all shared", x -> x.free(0), 0);
        edges.due("is(1)", y.is(1), 5);
        edges.due("of(2, 8), its PARENT is gone", y.of(2, 8), -1);
        Scene last = scene(x -> {
            Scenes.plain(x);
            x.hold(2, false);
        });
        last.does("free(2), READ ONLY, no HOLDS any more", x -> x.free(2), 0);
        scene(x -> Scenes.blocks(x, 96)).does("free(0), all BLOCKS", x -> x.free(0), 96);
        scene(x -> x.make(5, 5)).does("free(0), an empty one", x -> x.free(0), 0);

        edges.promise(23, "NONE: it has HOLDS, and for others.");
        plain.none("free(2), one HOLD", x -> x.free(2));
        scene(x -> holds(x, 9)).none("free(0), nine HOLDS", x -> x.free(0));
        for (int volume : Scenes.NO_VOLUMES) plain.none("free(" + volume + ")", x -> x.free(volume));
        scene(x -> {
            Scenes.plain(x);
            x.free(1);
        }).none("free(1) once more", x -> x.free(1));
    }
}
