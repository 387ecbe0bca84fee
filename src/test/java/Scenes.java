/** What the edges are looked at behind: see Scene. */
final class Scenes {
    /** In plain() there are VOLUMES 0, 1, 2: the first that is none, the last number, the first beyond it. */
    static final int[] NO_VOLUMES = {Integer.MIN_VALUE, -1, 3, 11, 12, Integer.MAX_VALUE};
    static final int[] NO_VALUES = {Integer.MIN_VALUE, -1, 1000000, Integer.MAX_VALUE};

    private Scenes() {
    }

    /**
     * VOLUME 0 (100, 50): BLOCKS 0, 1, 2 (VALUE 5) at 8, 9, 10, BLOCK 3 (VALUE 6) at 99.
     * VOLUME 1 (20, 10): BLOCK 4 (VALUE 7) at 0. VOLUME 2: taken from 0, READ ONLY, one HOLD.
     * Two rows staged, five in THE STREAM; THE IMAGE is of two VOLUMES.
     */
    static void plain(ThinVolumes x) {
        x.make(100, 50);
        x.fill(0, 8, 3, 5);
        x.write(0, 99, 6);
        x.make(20, 10);
        x.write(1, 0, 7);
        x.stage(3, 30);
        x.stage(4, -1);
        x.send(1, 0);
        x.image();
        x.take(0, true);
        x.hold(2, true);
    }

    /** VOLUMES 0 and 1 as in plain(), 2 taken from 0, READ ONLY or not; its RESERVE, HOLDS are 0. */
    static void taken(ThinVolumes x, boolean keeps) {
        x.make(100, 50);
        x.fill(0, 8, 3, 5);
        x.write(0, 99, 6);
        x.make(20, 10);
        x.write(1, 0, 7);
        x.image();
        x.take(0, keeps);
        x.stage(3, 30);
        x.send(1, 0);
    }

    /** 12 VOLUMES: 11 is as 0, of SIZE 100, QUOTA 50, with BLOCKS 0, 1 at 5, 6; all others are empty. */
    static void twelve(ThinVolumes x) {
        for (int volume = 0; volume < 11; volume++) x.make(100, 50);
        x.fill(0, 5, 2, 9);
        x.image();
        x.take(0, false);
    }

    /** VOLUME 0 (512, 512) with so many BLOCKS, of VALUE 1, at 0, 1, ..; VOLUME 1 (512, 512), empty. */
    static void blocks(ThinVolumes x, int used) {
        x.make(512, 512);
        x.make(512, 512);
        for (int from = 0; from < used; from += 64) x.fill(0, from, Math.min(64, used - from), 1);
    }

    /**
     * LIKE 1; all but so many PARTS (14 at most) are used, with one BLOCK (VALUE 1): by VOLUMES 0, 1
     * (all ADDRESSES) and 2 (from 0 on, by 8); VOLUME 3 is empty. All are (512, 512).
     */
    static void parts(ThinVolumes x, int free) {
        for (int volume = 0; volume < 4; volume++) x.make(512, 512);
        x.like(1);
        for (int volume = 0; volume < 2; volume++) {
            for (int from = 0; from < 512; from += 64) x.fill(volume, from, 64, 1);
        }
        int rest = 14 - free;
        if (rest >= 3) x.write(2, 0, 1);
        rest -= 3;
        int leaves = Math.min(7, rest);
        // A second TWIG takes two PARTS, so one LEAF fewer in the first where one alone would be left.
        if (rest - leaves == 1) leaves--;
        for (int i = 1; i <= leaves; i++) x.write(2, 8 * i, 1);
        rest -= leaves;
        for (int i = 0; i < rest - 1; i++) x.write(2, 64 + 8 * i, 1);
    }
}
