import java.util.Arrays;

/**
 * A pool of blocks under thin volumes. The public methods look at their arguments and at what
 * forbids a call; the classes inside hold the state and do the work.
 */
public final class ThinVolumes {
    public static final int NONE = -1;

    private static final int BLOCKS = 96;
    private static final int PARTS = 160;
    /** A THING is a block 0 .. 95, or a part as 96 and its number, as wrong() tells them. */
    private static final int THINGS = BLOCKS + PARTS;
    private static final int VOLUMES = 12;
    private static final int PLACES = 8;
    private static final int ADDRESSES = 512;
    private static final int VALUES = 1000000;
    private static final int QUOTAS = 512;
    private static final int RESERVES = 96;
    private static final int HOLDS = 9;
    private static final int COUNTS = 999;
    private static final int LONGEST_PIECE = 64;
    private static final int STEPS = 16;
    private static final int STAGE_ROWS = 16;
    private static final int NO_ROW = -2;
    private static final int INT_BITS = 32;

    private static final int LEAF = 0;
    private static final int TWIG = 1;
    private static final int TRUNK = 2;
    /** On the way to an address, from the block (0) up: a part of a kind is at that kind and 1. */
    private static final int BLOCK_LEVEL = 0;
    private static final int TRUNK_LEVEL = TRUNK + 1;

    private final State now;
    /** All as it was ahead of the call that is being done: to go back to, or to keep as a step. */
    private State before;
    private final Past past;
    private final State picture;
    private final Past picturePast;
    private final Rows stream;
    private final Rows stage;
    private final Difference difference;
    /** A number for each thing, used anew by each call that needs one. */
    private final int[] scratch;

    public ThinVolumes() {
        now = new State();
        before = new State();
        past = new Past();
        picture = new State();
        picturePast = new Past();
        stream = new Rows(ADDRESSES);
        stage = new Rows(STAGE_ROWS);
        difference = new Difference();
        scratch = new int[THINGS];
    }

    // ---- what is done by hand ----

    public int make(int size, int quota) {
        int fresh = now.leastFreeVolume();
        if (!isSize(size) || !isQuota(quota) || fresh == NONE || !isSound()) return NONE;
        begin();
        now.addVolume(fresh, size, quota);
        keepStep();
        return fresh;
    }

    public int take(int volume, boolean keeps) {
        int fresh = now.leastFreeVolume();
        if (!now.isThere(volume) || fresh == NONE || !isSound()) return NONE;
        begin();
        now.addVolume(fresh, now.size[volume], now.quota[volume]);
        now.readOnly[fresh] = keeps;
        now.parent[fresh] = volume;
        now.hangTrunk(fresh, now.trunk[volume]);
        keepStep();
        return fresh;
    }

    public boolean write(int volume, int address, int value) {
        if (!isOpenToHand(volume) || !isInside(volume, address) || !isValue(value)) return false;
        begin();
        return settle(now.put(volume, address, value));
    }

    public boolean wipe(int volume, int address) {
        if (!isOpenToHand(volume) || !isInside(volume, address)) return false;
        if (now.blockAt(volume, address) == NONE) return false;
        begin();
        return settle(now.clear(volume, address));
    }

    public boolean bring(int volume, int other) {
        if (!isOpenToHand(volume) || !now.isThere(other) || volume == other) return false;
        begin();
        now.hangTrunk(volume, now.trunk[other]);
        now.size[volume] = now.size[other];
        return settle(true);
    }

    public boolean size(int volume, int size) {
        if (!isOpenToHand(volume) || !isSize(size)) return false;
        begin();
        return settle(now.resize(volume, size));
    }

    public boolean quota(int volume, int quota) {
        if (!isOpenToHand(volume) || !isQuota(quota) || quota < now.usedOf(volume)) return false;
        begin();
        now.quota[volume] = quota;
        keepStep();
        return true;
    }

    public boolean share(int volume, int address, int to, int toAddress, int n) {
        if (!isOpenToHand(to) || volume == to) return false;
        if (!isPiece(volume, address, n) || !isPiece(to, toAddress, n)) return false;
        begin();
        boolean can = true;
        for (int i = 0; i < n && can; i++) can = now.copyBlock(volume, address + i, to, toAddress + i);
        return settle(can);
    }

    public boolean graft(int volume, int address, int what, int to, int toAddress, int where) {
        if (!isOpenToHand(to) || volume == to) return false;
        if (!isInside(volume, address) || !isInside(to, toAddress)) return false;
        // A block goes into a leaf, a leaf into a twig, a twig into a trunk: like numbers.
        if (what < LEAF || what > TRUNK || where != what) return false;
        int thing = now.thingAt(volume, address, what);
        if (thing == NONE) return false;
        begin();
        return settle(now.insert(to, toAddress, where, thing));
    }

    public boolean fill(int volume, int address, int n, int value) {
        if (!isOpenToHand(volume) || !isPiece(volume, address, n) || !isValue(value)) return false;
        begin();
        boolean can = true;
        for (int i = 0; i < n && can; i++) can = now.put(volume, address + i, value);
        return settle(can);
    }

    public boolean reserve(int volume, int blocks) {
        if (!isOpenToHand(volume) || blocks < 0 || blocks > RESERVES) return false;
        begin();
        now.reserve[volume] = blocks;
        return settle(true);
    }

    public int hold(int volume, boolean more) {
        if (!now.isThere(volume) || !isSound()) return NONE;
        int holds = now.holds[volume] + (more ? 1 : -1);
        if (holds < 0 || holds > HOLDS) return NONE;
        begin();
        now.holds[volume] = holds;
        keepStep();
        return holds;
    }

    public int prune(int n) {
        if (n < 0 || n > VOLUMES || !isSound()) return NONE;
        begin();
        int gone = 0;
        for (int volume = 0; volume < VOLUMES; volume++) {
            // The n latest always stay, so what went already never hides a later one.
            if (now.isPrunable(volume) && now.prunableAfter(volume) >= n) {
                now.removeVolume(volume);
                gone++;
            }
        }
        keepStep();
        return gone;
    }

    public int send(int volume, int other) {
        if (!now.isThere(volume) || !now.isThere(other)) return NONE;
        difference.look(now, volume, other);
        stream.count = 0;
        for (int i = 0; i < difference.count; i++) {
            int address = difference.addressAt(i);
            int block = now.blockAt(other, address);
            stream.add(address, block == NONE ? NONE : now.pool.valueOf(block));
        }
        return stream.count;
    }

    public boolean receive(int volume) {
        if (!isOpenToHand(volume)) return false;
        begin();
        return settle(now.takeIn(volume, stream));
    }

    public boolean move(int volume, int address, int to, int n) {
        if (!isOpenToHand(volume)) return false;
        if (!isPiece(volume, address, n) || !isPiece(volume, to, n)) return false;
        if (address + n > to && to + n > address) return false;
        begin();
        boolean can = true;
        for (int i = 0; i < n && can; i++) can = now.moveBlock(volume, address + i, to + i);
        return settle(can);
    }

    public boolean swap(int volume, int other) {
        if (!isOpenToHand(volume) || !isOpenToHand(other) || volume == other) return false;
        begin();
        now.exchange(volume, other);
        return settle(true);
    }

    public int stage(int address, int value) {
        if (address < 0 || address >= ADDRESSES) return NONE;
        if (value != NONE && !isValue(value)) return NONE;
        return stage.add(address, value) ? stage.count : NONE;
    }

    public boolean commit(int volume) {
        if (!isOpenToHand(volume)) return false;
        begin();
        if (!settle(now.takeIn(volume, stage))) return false;
        stage.count = 0;
        return true;
    }

    public int merge() {
        if (!isSound()) return NONE;
        begin();
        int were = now.pool.usedBlocks();
        now.pool.joinLikeBlocks();
        keepStep();
        return were - now.pool.usedBlocks();
    }

    public int fold() {
        if (!isSound()) return NONE;
        begin();
        int were = now.pool.usedParts();
        for (int kind = LEAF; kind <= TRUNK; kind++) now.joinLikeParts(kind);
        keepStep();
        return were - now.pool.usedParts();
    }

    public int free(int volume) {
        if (!now.isThere(volume) || now.holds[volume] != 0 || !isSound()) return NONE;
        begin();
        int freed = now.removeVolume(volume);
        keepStep();
        return freed;
    }

    public boolean like(int like) {
        if (like < 0 || like > 1 || !isSound()) return false;
        begin();
        now.like = like;
        keepStep();
        return true;
    }

    public boolean spoil(int block, int count) {
        if (!now.pool.isUsedBlock(block) || count < 1 || count > COUNTS) return false;
        begin();
        now.pool.count[block] = count;
        now.spoilt = true;
        keepStep();
        return true;
    }

    public int mend() {
        begin();
        int mended = now.mendCounts(scratch);
        now.spoilt = false;
        keepStep();
        return mended;
    }

    public int close() {
        if (!isSound()) return NONE;
        begin();
        int moved = now.layClose(scratch);
        keepStep();
        return moved;
    }

    public int undo() {
        if (past.count == 0) return NONE;
        past.takeLatest(now);
        return past.count;
    }

    // ---- what is told ----

    public int is(int what) {
        switch (what) {
            case 0: return now.volumes();
            case 1: return now.pool.usedBlocks();
            case 2: return now.pool.usedParts();
            case 3: return now.mappedInAll();
            case 4: return now.like;
            case 5: return now.pool.usedLeaves();
            case 6: return now.pool.countsTogether();
            case 7: return now.pool.countOf(now.pool.mostCounted());
            case 8: return now.made;
            case 9: return now.heldFree();
            case 10: return stream.count;
            case 11: return stage.count;
            default: return NONE;
        }
    }

    public int of(int volume, int what) {
        if (!now.isThere(volume)) return NONE;
        switch (what) {
            case 0: return now.size[volume];
            case 1: return now.quota[volume];
            case 2: return now.readOnly[volume] ? 1 : 0;
            case 3: return now.usedOf(volume);
            case 4: return partNumber(now.trunk[volume]);
            case 5: return freedBy(1 << volume);
            case 6: return now.reserve[volume];
            case 7: return now.holds[volume];
            case 8: return now.parent[volume];
            case 9: return now.born[volume];
            case 10: return now.parentsAbove(volume);
            case 11: return now.runsOf(volume);
            default: return NONE;
        }
    }

    public int read(int volume, int address) {
        return isInside(volume, address) ? now.valueAt(volume, address) : NONE;
    }

    public int block(int volume, int address) {
        return isInside(volume, address) ? now.blockAt(volume, address) : NONE;
    }

    public int ofBlock(int block, int what) {
        if (!now.pool.isUsedBlock(block)) return NONE;
        switch (what) {
            case 0: return now.pool.valueOf(block);
            case 1: return now.pool.countOf(block);
            case 2: return now.pool.placesOf(block);
            default: return NONE;
        }
    }

    public int ofPart(int part, int what) {
        if (!isUsedPart(part)) return NONE;
        switch (what) {
            case 0: return now.pool.kindOf(part + BLOCKS);
            case 1: return now.pool.countOf(part + BLOCKS);
            case 2: return now.pool.filledPlaces(part + BLOCKS);
            default: return NONE;
        }
    }

    public int place(int part, int place) {
        if (!isUsedPart(part)) return NONE;
        int thing = now.pool.at(part + BLOCKS, place);
        return thing < BLOCKS ? thing : partNumber(thing);
    }

    public int owners(int block) {
        if (!now.pool.isUsedBlock(block)) return NONE;
        int owners = 0;
        for (int volume = 0; volume < VOLUMES; volume++) {
            if (now.pool.isUnder(now.trunk[volume], TRUNK, block)) owners++;
        }
        return owners;
    }

    public int wrong() {
        return now.firstWrong(scratch);
    }

    public int differs(int volume, int other, int i) {
        if (!now.isThere(volume) || !now.isThere(other)) return NONE;
        difference.look(now, volume, other);
        return i == NONE ? difference.count : difference.addressAt(i);
    }

    public int walked(int volume, int other) {
        if (!now.isThere(volume) || !now.isThere(other)) return NONE;
        difference.look(now, volume, other);
        return difference.walked;
    }

    public int changed(int volume, int other, int i) {
        if (!now.isThere(volume) || !now.isThere(other)) return NONE;
        difference.look(now, volume, other);
        int found = 0;
        for (int k = 0; k < difference.count; k++) {
            int address = difference.addressAt(k);
            if (now.valueAt(volume, address) == now.valueAt(other, address)) continue;
            if (found == i) return address;
            found++;
        }
        return i == NONE ? found : NONE;
    }

    public int frees(int volumes) {
        for (int bit = 0; bit < INT_BITS; bit++) {
            if (((volumes >>> bit) & 1) == 1 && !now.isThere(bit)) return NONE;
        }
        return freedBy(volumes);
    }

    public int heaviest() {
        int best = NONE;
        int most = NONE;
        for (int volume = 0; volume < VOLUMES; volume++) {
            if (!now.isThere(volume)) continue;
            int freed = freedBy(1 << volume);
            if (freed > most) {
                most = freed;
                best = volume;
            }
        }
        return best;
    }

    public int path(int volume, int address, int i) {
        if (!isInside(volume, address) || i < 0 || i > TRUNK) return NONE;
        return partNumber(now.thingAt(volume, address, TRUNK_LEVEL - i));
    }

    public int find(int value) {
        for (int volume = 0; volume < VOLUMES; volume++) {
            int address = now.firstWith(volume, 0, value);
            if (address != NONE) return ADDRESSES * volume + address;
        }
        return NONE;
    }

    public int times(int volume, int value) {
        if (!now.isThere(volume)) return NONE;
        int times = 0;
        int address = now.firstWith(volume, 0, value);
        for (int i = 0; i < ADDRESSES && address != NONE; i++) {
            times++;
            address = now.firstWith(volume, address + 1, value);
        }
        return times;
    }

    public int counted(int count) {
        if (count < 1) return NONE;
        int blocks = 0;
        for (int block = 0; block < BLOCKS; block++) {
            if (now.pool.count[block] == count) blocks++;
        }
        return blocks;
    }

    public int hottest() {
        return now.pool.mostCounted();
    }

    public int leaves(int block) {
        return now.pool.isUsedBlock(block) ? now.pool.leavesWith(block) : NONE;
    }

    public int parts(int volume, int what) {
        if (!now.isThere(volume) || what < LEAF || what > TRUNK) return NONE;
        Arrays.fill(scratch, 0);
        now.pool.markUnder(now.trunk[volume], TRUNK, scratch);
        int parts = 0;
        for (int thing = BLOCKS; thing < THINGS; thing++) {
            if (scratch[thing] != 0 && now.pool.kindOf(thing) == what) parts++;
        }
        return parts;
    }

    public int staged(int i, int what) {
        return stage.told(i, what);
    }

    public int stream(int i, int what) {
        return stream.told(i, what);
    }

    public int children(int volume) {
        if (!now.isThere(volume)) return NONE;
        int bits = 0;
        for (int child = 0; child < VOLUMES; child++) {
            if (now.isThere(child) && now.parent[child] == volume) bits |= 1 << child;
        }
        return bits;
    }

    public int nearest(int volume, int other) {
        if (!now.isThere(volume) || !now.isThere(other)) return NONE;
        int one = volume;
        for (int i = 0; i < VOLUMES && now.isThere(one); i++) {
            if (now.isSelfOrAbove(one, other)) return one;
            one = now.parent[one];
        }
        return NONE;
    }

    public int run(int volume, int i, int what) {
        if (!now.isThere(volume) || i < 0) return NONE;
        int first = now.runStart(volume, i);
        if (first == NONE) return NONE;
        switch (what) {
            case 0: return first;
            case 1: return now.blockAt(volume, first);
            case 2: return now.runLength(volume, first);
            default: return NONE;
        }
    }

    public int next(int volume, int address) {
        if (!isInside(volume, address)) return NONE;
        return now.firstMapped(volume, address, now.size[volume]);
    }

    public int needs(int volume, int address, int value, int what) {
        if (!isOpenToHand(volume) || !isInside(volume, address) || !isValue(value)) return NONE;
        if (what < 0 || what > 1) return NONE;
        begin();
        boolean can = now.put(volume, address, value) && now.isAllowed();
        int more = what == 0
                ? now.pool.usedBlocks() - before.pool.usedBlocks()
                : now.pool.usedParts() - before.pool.usedParts();
        now.copyFrom(before);
        return can ? Math.max(more, 0) : NONE;
    }

    public int saved() {
        int blocks = now.pool.usedBlocks();
        if (blocks == 0) return 0;
        return bitsOfFloat((float) now.mappedInAll() / (float) blocks);
    }

    public int full(int volume) {
        if (!now.isThere(volume)) return NONE;
        return (int) ((double) now.usedOf(volume) * 1000.0 / (double) now.size[volume]);
    }

    public long mean(int volume) {
        if (!now.isThere(volume)) return 0;
        int used = now.usedOf(volume);
        if (used == 0) return 0;
        double sum = 0;
        for (int address = 0; address < now.size[volume]; address++) sum += now.valueAt(volume, address);
        return bitsOfDouble(sum / (double) used);
    }

    public int digest(int volume) {
        if (!now.isThere(volume)) return 0;
        int h = 0;
        for (int address = 0; address < now.size[volume]; address++) {
            h = 31 * h + now.valueAt(volume, address);
        }
        return h;
    }

    public int image() {
        picture.copyFrom(now);
        picturePast.copyFrom(past);
        return now.volumes();
    }

    public int back() {
        now.copyFrom(picture);
        past.copyFrom(picturePast);
        return now.volumes();
    }

    public int steps() {
        return past.count;
    }

    // ---- arguments, steps and numbers ----

    private static boolean isSize(int size) {
        return size >= 1 && size <= ADDRESSES;
    }

    private static boolean isQuota(int quota) {
        return quota >= 0 && quota <= QUOTAS;
    }

    private static boolean isValue(int value) {
        return value >= 0 && value < VALUES;
    }

    private static boolean isThing(int thing) {
        return thing >= 0 && thing < THINGS;
    }

    private static boolean isPart(int thing) {
        return thing >= BLOCKS && thing < THINGS;
    }

    private static int partNumber(int thing) {
        return isPart(thing) ? thing - BLOCKS : NONE;
    }

    private static int placeOf(int address, int kind) {
        return (address >> (3 * kind)) & (PLACES - 1);
    }

    private boolean isUsedPart(int part) {
        return part >= 0 && part < PARTS && now.pool.count[part + BLOCKS] > 0;
    }

    private boolean isInside(int volume, int address) {
        return now.isThere(volume) && address >= 0 && address < now.size[volume];
    }

    private boolean isPiece(int volume, int address, int n) {
        return n >= 1 && n <= LONGEST_PIECE && isInside(volume, address)
                && address + n <= now.size[volume];
    }

    /** Only a hand spoils a count, so nothing need be counted before one did. */
    private boolean isSound() {
        return !now.spoilt || now.firstWrong(scratch) == NONE;
    }

    /** Whether anything may be done to a volume by hand, but to take it, let it go, hold it. */
    private boolean isOpenToHand(int volume) {
        return now.isThere(volume) && !now.readOnly[volume] && isSound();
    }

    private void begin() {
        before.copyFrom(now);
    }

    private void keepStep() {
        before = past.keep(before);
    }

    /** Keeps what was begun as a step if it could be done and leaves all as it must be; else undoes it. */
    private boolean settle(boolean can) {
        if (can && now.isAllowed()) {
            keepStep();
            return true;
        }
        now.copyFrom(before);
        return false;
    }

    /** How many blocks letting these volumes go would free, told on a copy of the counts. */
    private int freedBy(int volumes) {
        System.arraycopy(now.pool.count, 0, scratch, 0, THINGS);
        int freed = 0;
        for (int volume = 0; volume < VOLUMES; volume++) {
            if (((volumes >> volume) & 1) == 0) continue;
            freed += now.pool.letGo(scratch, now.trunk[volume], TRUNK_LEVEL);
        }
        return freed;
    }

    /** The library's own way to a float's bits is not to be used: they are found by exact halving. */
    private static int bitsOfFloat(float number) {
        if (number <= 0f) return 0;
        float left = number;
        int exponent = 127;
        for (int i = 0; i < 127 && left >= 2f; i++) {
            left = left / 2f;
            exponent++;
        }
        for (int i = 0; i < 126 && left < 1f; i++) {
            left = left * 2f;
            exponent--;
        }
        return (exponent << 23) | (int) ((left - 1f) * 8388608f);
    }

    private static long bitsOfDouble(double number) {
        if (number <= 0.0) return 0;
        double left = number;
        long exponent = 1023;
        for (int i = 0; i < 1023 && left >= 2.0; i++) {
            left = left / 2.0;
            exponent++;
        }
        for (int i = 0; i < 1022 && left < 1.0; i++) {
            left = left * 2.0;
            exponent--;
        }
        return (exponent << 52) | (long) ((left - 1.0) * 4503599627370496.0);
    }

    /** Blocks and parts with their counts. A free one keeps what it had; nobody looks at it. */
    private static final class Pool {
        final int[] value = new int[BLOCKS];
        final int[] count = new int[THINGS];
        final int[] kind = new int[PARTS];
        final int[] places = new int[PARTS * PLACES];

        void copyFrom(Pool other) {
            System.arraycopy(other.value, 0, value, 0, BLOCKS);
            System.arraycopy(other.count, 0, count, 0, THINGS);
            System.arraycopy(other.kind, 0, kind, 0, PARTS);
            System.arraycopy(other.places, 0, places, 0, PARTS * PLACES);
        }

        boolean isUsedBlock(int block) {
            return block >= 0 && block < BLOCKS && count[block] > 0;
        }

        int countOf(int thing) {
            return isThing(thing) ? count[thing] : 0;
        }

        int valueOf(int block) {
            return block >= 0 && block < BLOCKS ? value[block] : 0;
        }

        void setValue(int block, int its) {
            if (block >= 0 && block < BLOCKS) value[block] = its;
        }

        /** The kind of a part that isn't free; NONE for all else. */
        int kindOf(int thing) {
            return isPart(thing) && count[thing] > 0 ? kind[thing - BLOCKS] : NONE;
        }

        int at(int part, int place) {
            if (part < BLOCKS || part >= THINGS || place < 0 || place >= PLACES) return NONE;
            return places[(part - BLOCKS) * PLACES + place];
        }

        void raise(int thing) {
            if (isThing(thing)) count[thing]++;
        }

        /** Hangs a thing, or NONE to empty the place. */
        void hang(int part, int place, int thing) {
            if (!isPart(part) || place < 0 || place >= PLACES) return;
            int slot = (part - BLOCKS) * PLACES + place;
            int was = places[slot];
            raise(thing);
            places[slot] = thing;
            letGo(count, was, TRUNK_LEVEL);
        }

        /** Lets a thing go by these counts, the pool's or a copy of them: how many blocks are free by it. */
        private int letGo(int[] counts, int thing, int level) {
            if (level < BLOCK_LEVEL || !isThing(thing) || thing >= counts.length) return 0;
            counts[thing]--;
            if (counts[thing] != 0) return 0;
            if (!isPart(thing)) return 1;
            int freed = 0;
            for (int place = 0; place < PLACES; place++) {
                freed += letGo(counts, at(thing, place), level - 1);
            }
            return freed;
        }

        private int leastFree(int from, int end) {
            for (int thing = from; thing < end && thing < THINGS; thing++) {
                if (count[thing] == 0) return thing;
            }
            return NONE;
        }

        /** A new block, yet to be hung; NONE if there is none free. */
        int newBlock(int its) {
            int block = leastFree(0, BLOCKS);
            setValue(block, its);
            return block;
        }

        /**
         * The part itself if it is in one place alone; else a new one, yet to be hung, with the same
         * in its places (nothing, where there was no part); NONE if there is none free.
         */
        int ownPart(int part, int itsKind) {
            if (countOf(part) == 1) return part;
            int fresh = leastFree(BLOCKS, THINGS);
            if (fresh == NONE) return NONE;
            kind[fresh - BLOCKS] = itsKind;
            for (int place = 0; place < PLACES; place++) {
                int thing = at(part, place);
                raise(thing);
                places[(fresh - BLOCKS) * PLACES + place] = thing;
            }
            return fresh;
        }

        int leastBlockWith(int its) {
            for (int block = 0; block < BLOCKS; block++) {
                if (count[block] > 0 && value[block] == its) return block;
            }
            return NONE;
        }

        int filledPlaces(int part) {
            int filled = 0;
            for (int place = 0; place < PLACES; place++) {
                if (at(part, place) != NONE) filled++;
            }
            return filled;
        }

        int usedBlocks() {
            int used = 0;
            for (int block = 0; block < BLOCKS; block++) {
                if (count[block] > 0) used++;
            }
            return used;
        }

        int usedParts() {
            int used = 0;
            for (int part = BLOCKS; part < THINGS; part++) {
                if (count[part] > 0) used++;
            }
            return used;
        }

        int usedLeaves() {
            int used = 0;
            for (int part = BLOCKS; part < THINGS; part++) {
                if (kindOf(part) == LEAF) used++;
            }
            return used;
        }

        int countsTogether() {
            int sum = 0;
            for (int block = 0; block < BLOCKS; block++) sum += count[block];
            return sum;
        }

        int mostCounted() {
            int best = NONE;
            for (int block = 0; block < BLOCKS; block++) {
                if (count[block] > countOf(best)) best = block;
            }
            return best;
        }

        int placesOf(int block) {
            int found = 0;
            for (int part = BLOCKS; part < THINGS; part++) {
                if (kindOf(part) == LEAF) found += timesIn(part, block);
            }
            return found;
        }

        int leavesWith(int block) {
            int found = 0;
            for (int part = BLOCKS; part < THINGS; part++) {
                if (kindOf(part) == LEAF && timesIn(part, block) > 0) found++;
            }
            return found;
        }

        private int timesIn(int part, int thing) {
            int found = 0;
            for (int place = 0; place < PLACES; place++) {
                if (at(part, place) == thing) found++;
            }
            return found;
        }

        /** How many addresses are mapped below a part of that kind. */
        private int mappedUnder(int part, int itsKind) {
            if (part == NONE) return 0;
            if (itsKind <= LEAF) return filledPlaces(part);
            int found = 0;
            for (int place = 0; place < PLACES; place++) found += mappedUnder(at(part, place), itsKind - 1);
            return found;
        }

        /** Whether a block is somewhere below a part of that kind. */
        private boolean isUnder(int part, int itsKind, int block) {
            if (part == NONE) return false;
            if (itsKind <= LEAF) return timesIn(part, block) > 0;
            for (int place = 0; place < PLACES; place++) {
                if (isUnder(at(part, place), itsKind - 1, block)) return true;
            }
            return false;
        }

        /** Marks a part of that kind and all parts below it. */
        private void markUnder(int part, int itsKind, int[] marks) {
            if (itsKind < LEAF || !isPart(part) || part >= marks.length) return;
            marks[part] = 1;
            for (int place = 0; place < PLACES && itsKind > LEAF; place++) {
                markUnder(at(part, place), itsKind - 1, marks);
            }
        }

        void joinLikeBlocks() {
            for (int part = BLOCKS; part < THINGS; part++) {
                if (kindOf(part) != LEAF) continue;
                for (int place = 0; place < PLACES; place++) {
                    int block = at(part, place);
                    if (block == NONE) continue;
                    int least = leastBlockWith(valueOf(block));
                    if (least != block) hang(part, place, least);
                }
            }
        }

        /** The least part of the same kind, with a lesser number, that has the same in all places. */
        int lesserTwin(int part) {
            for (int twin = BLOCKS; twin < part; twin++) {
                if (kindOf(twin) == kindOf(part) && hasSame(twin, part)) return twin;
            }
            return NONE;
        }

        private boolean hasSame(int one, int other) {
            for (int place = 0; place < PLACES; place++) {
                if (at(one, place) != at(other, place)) return false;
            }
            return true;
        }

        void hangInstead(int part, int twin) {
            int above = kindOf(part) + 1;
            for (int upper = BLOCKS; upper < THINGS; upper++) {
                if (kindOf(upper) != above) continue;
                for (int place = 0; place < PLACES; place++) {
                    if (at(upper, place) == part) hang(upper, place, twin);
                }
            }
        }

        /** Counts in how many places of parts each thing is, onto what stands there. */
        void addPlaces(int[] places) {
            for (int part = BLOCKS; part < THINGS; part++) {
                if (count[part] == 0) continue;
                for (int place = 0; place < PLACES; place++) {
                    int thing = at(part, place);
                    if (isThing(thing) && thing < places.length) places[thing]++;
                }
            }
        }

        /** Tells each thing that isn't free its number when all lie close: how many blocks get another. */
        int numberClose(int[] numbers) {
            int moved = 0;
            int nextBlock = 0;
            int nextPart = BLOCKS;
            for (int thing = 0; thing < THINGS && thing < numbers.length; thing++) {
                numbers[thing] = NONE;
                if (count[thing] == 0) continue;
                numbers[thing] = isPart(thing) ? nextPart++ : nextBlock++;
                if (!isPart(thing) && numbers[thing] != thing) moved++;
            }
            return moved;
        }

        /** Rising, so that a number is free, or its thing moved on, when another thing comes to it. */
        void renumber(int[] numbers) {
            for (int thing = 0; thing < THINGS && thing < numbers.length; thing++) {
                int number = numbers[thing];
                if (!isThing(number)) continue;
                if (isPart(thing) && isPart(number)) movePart(thing, number, numbers);
                else if (!isPart(thing) && !isPart(number)) value[number] = value[thing];
                int its = count[thing];
                count[thing] = 0;
                count[number] = its;
            }
        }

        private void movePart(int part, int number, int[] numbers) {
            kind[number - BLOCKS] = kind[part - BLOCKS];
            for (int place = 0; place < PLACES; place++) {
                int thing = at(part, place);
                int its = thing >= 0 && thing < numbers.length ? numbers[thing] : NONE;
                places[(number - BLOCKS) * PLACES + place] = its;
            }
        }
    }

    /** The pool and the volumes: all that a step or an image goes back to. */
    private static final class State {
        final Pool pool = new Pool();
        /** 0: there is no such volume. */
        final int[] size = new int[VOLUMES];
        final int[] quota = new int[VOLUMES];
        final boolean[] readOnly = new boolean[VOLUMES];
        final int[] trunk = new int[VOLUMES];
        final int[] reserve = new int[VOLUMES];
        final int[] holds = new int[VOLUMES];
        final int[] parent = new int[VOLUMES];
        final int[] born = new int[VOLUMES];
        int like;
        int made;
        /** A count was told by hand since all were mended. */
        boolean spoilt;

        State() {
            Arrays.fill(trunk, NONE);
            Arrays.fill(parent, NONE);
        }

        void copyFrom(State other) {
            pool.copyFrom(other.pool);
            System.arraycopy(other.size, 0, size, 0, VOLUMES);
            System.arraycopy(other.quota, 0, quota, 0, VOLUMES);
            System.arraycopy(other.readOnly, 0, readOnly, 0, VOLUMES);
            System.arraycopy(other.trunk, 0, trunk, 0, VOLUMES);
            System.arraycopy(other.reserve, 0, reserve, 0, VOLUMES);
            System.arraycopy(other.holds, 0, holds, 0, VOLUMES);
            System.arraycopy(other.parent, 0, parent, 0, VOLUMES);
            System.arraycopy(other.born, 0, born, 0, VOLUMES);
            like = other.like;
            made = other.made;
            spoilt = other.spoilt;
        }

        boolean isThere(int volume) {
            return volume >= 0 && volume < VOLUMES && size[volume] > 0;
        }

        int volumes() {
            int found = 0;
            for (int volume = 0; volume < VOLUMES; volume++) {
                if (size[volume] > 0) found++;
            }
            return found;
        }

        int leastFreeVolume() {
            for (int volume = 0; volume < VOLUMES; volume++) {
                if (size[volume] == 0) return volume;
            }
            return NONE;
        }

        void addVolume(int volume, int itsSize, int itsQuota) {
            if (volume < 0 || volume >= VOLUMES) return;
            size[volume] = itsSize;
            quota[volume] = itsQuota;
            readOnly[volume] = false;
            trunk[volume] = NONE;
            reserve[volume] = 0;
            holds[volume] = 0;
            parent[volume] = NONE;
            born[volume] = made;
            made++;
        }

        /** How many blocks are free by it. */
        int removeVolume(int volume) {
            if (!isThere(volume)) return 0;
            int freed = pool.letGo(pool.count, trunk[volume], TRUNK_LEVEL);
            for (int child = 0; child < VOLUMES; child++) {
                if (size[child] > 0 && parent[child] == volume) parent[child] = parent[volume];
            }
            trunk[volume] = NONE;
            size[volume] = 0;
            return freed;
        }

        void hangTrunk(int volume, int part) {
            if (!isThere(volume)) return;
            int was = trunk[volume];
            pool.raise(part);
            trunk[volume] = part;
            pool.letGo(pool.count, was, TRUNK_LEVEL);
        }

        /** What is on the way to an address at a level: the block 0, the leaf 1, the twig 2, the trunk 3. */
        int thingAt(int volume, int address, int level) {
            if (!isThere(volume)) return NONE;
            int thing = trunk[volume];
            for (int kind = TRUNK; kind >= level && kind >= LEAF; kind--) {
                thing = pool.at(thing, placeOf(address, kind));
            }
            return thing;
        }

        int blockAt(int volume, int address) {
            return thingAt(volume, address, BLOCK_LEVEL);
        }

        int valueAt(int volume, int address) {
            return pool.valueOf(blockAt(volume, address));
        }

        /** The first address that is mapped from one on, below an end; what an absent part spans is passed over. */
        int firstMapped(int volume, int from, int end) {
            int address = from;
            while (address < end) {
                int twig = thingAt(volume, address, TRUNK);
                int leaf = pool.at(twig, placeOf(address, TWIG));
                if (pool.at(leaf, placeOf(address, LEAF)) != NONE) return address;
                address = twig == NONE ? (address | 63) + 1 : leaf == NONE ? (address | 7) + 1 : address + 1;
            }
            return NONE;
        }

        /** The first address from one on that is mapped with a value. */
        int firstWith(int volume, int from, int value) {
            if (!isThere(volume)) return NONE;
            int address = firstMapped(volume, from, size[volume]);
            for (int i = 0; i < ADDRESSES && address != NONE; i++) {
                if (valueAt(volume, address) == value) return address;
                address = firstMapped(volume, address + 1, size[volume]);
            }
            return NONE;
        }

        int usedOf(int volume) {
            return isThere(volume) ? pool.mappedUnder(trunk[volume], TRUNK) : 0;
        }

        int mappedInAll() {
            int sum = 0;
            for (int volume = 0; volume < VOLUMES; volume++) sum += usedOf(volume);
            return sum;
        }

        int heldFree() {
            int sum = 0;
            for (int volume = 0; volume < VOLUMES; volume++) {
                if (isThere(volume)) sum += Math.max(reserve[volume] - usedOf(volume), 0);
            }
            return sum;
        }

        /** Whether no quota is passed and what is reserved is free. */
        boolean isAllowed() {
            int held = 0;
            for (int volume = 0; volume < VOLUMES; volume++) {
                int used = usedOf(volume);
                if (isThere(volume) && used > quota[volume]) return false;
                if (isThere(volume)) held += Math.max(reserve[volume] - used, 0);
            }
            return BLOCKS - pool.usedBlocks() >= held;
        }

        /** Opens an address down to a kind of part: that part, or NONE if there are no more parts. */
        private int openTo(int volume, int address, int lowest) {
            int part = NONE;
            for (int kind = TRUNK; kind >= lowest; kind--) {
                int was = thingAt(volume, address, kind + 1);
                int own = pool.ownPart(was, kind);
                if (own == NONE) return NONE;
                if (own != was && kind == TRUNK) hangTrunk(volume, own);
                else if (own != was) pool.hang(part, placeOf(address, kind + 1), own);
                part = own;
            }
            return part;
        }

        private void shut(int volume, int address) {
            for (int kind = LEAF; kind <= TRUNK; kind++) {
                int part = thingAt(volume, address, kind + 1);
                if (part == NONE || pool.filledPlaces(part) > 0) return;
                int above = thingAt(volume, address, kind + 2);
                if (kind == TRUNK) hangTrunk(volume, NONE);
                else pool.hang(above, placeOf(address, kind + 1), NONE);
            }
        }

        /** WRITTEN; false if there is no room. */
        boolean put(int volume, int address, int value) {
            int leaf = openTo(volume, address, LEAF);
            if (leaf == NONE) return false;
            int place = placeOf(address, LEAF);
            int there = pool.at(leaf, place);
            int alike = like == 1 ? pool.leastBlockWith(value) : NONE;
            if (alike == NONE && there != NONE && pool.countOf(there) == 1) {
                pool.setValue(there, value);
                return true;
            }
            int block = alike != NONE ? alike : pool.newBlock(value);
            if (block == NONE) return false;
            if (block != there) pool.hang(leaf, place, block);
            return true;
        }

        /** WIPED, if it is mapped; false if there is no room. */
        boolean clear(int volume, int address) {
            if (blockAt(volume, address) == NONE) return true;
            int leaf = openTo(volume, address, LEAF);
            if (leaf == NONE) return false;
            pool.hang(leaf, placeOf(address, LEAF), NONE);
            shut(volume, address);
            return true;
        }

        boolean resize(int volume, int itsSize) {
            if (!isThere(volume)) return false;
            for (int address = ADDRESSES - 1; address >= itsSize; address--) {
                if (!clear(volume, address)) return false;
            }
            size[volume] = itsSize;
            return true;
        }

        /** One address SHARED. */
        boolean copyBlock(int volume, int address, int to, int toAddress) {
            int block = blockAt(volume, address);
            if (block == NONE) return clear(to, toAddress);
            int leaf = openTo(to, toAddress, LEAF);
            if (leaf == NONE) return false;
            pool.hang(leaf, placeOf(toAddress, LEAF), block);
            return true;
        }

        /** One address MOVED. */
        boolean moveBlock(int volume, int address, int to) {
            return copyBlock(volume, address, volume, to) && clear(volume, address);
        }

        /** GRAFTED, the thing into a part of that kind. */
        boolean insert(int volume, int address, int kind, int thing) {
            if (!isThere(volume)) return false;
            int part = openTo(volume, address, kind);
            if (part == NONE) return false;
            pool.hang(part, placeOf(address, kind), thing);
            return firstMapped(volume, size[volume], ADDRESSES) == NONE;
        }

        boolean takeIn(int volume, Rows rows) {
            if (!isThere(volume)) return false;
            for (int i = 0; i < rows.count; i++) {
                int address = rows.told(i, 0);
                int value = rows.told(i, 1);
                if (address < 0 || address >= size[volume]) return false;
                boolean can = value == NONE
                        ? clear(volume, address)
                        : put(volume, address, value);
                if (!can) return false;
            }
            return true;
        }

        void exchange(int volume, int other) {
            if (!isThere(volume) || !isThere(other)) return;
            int itsTrunk = trunk[volume];
            int itsSize = size[volume];
            trunk[volume] = trunk[other];
            size[volume] = size[other];
            trunk[other] = itsTrunk;
            size[other] = itsSize;
        }

        boolean isPrunable(int volume) {
            return isThere(volume) && readOnly[volume] && holds[volume] == 0;
        }

        int prunableAfter(int volume) {
            int later = 0;
            for (int other = 0; other < VOLUMES; other++) {
                if (isPrunable(other) && isThere(volume) && born[other] > born[volume]) later++;
            }
            return later;
        }

        void joinLikeParts(int kind) {
            for (int part = BLOCKS; part < THINGS; part++) {
                if (pool.kindOf(part) != kind) continue;
                int twin = pool.lesserTwin(part);
                if (twin == NONE) continue;
                if (kind == TRUNK) hangTrunkInstead(part, twin);
                else pool.hangInstead(part, twin);
            }
        }

        private void hangTrunkInstead(int part, int twin) {
            for (int volume = 0; volume < VOLUMES; volume++) {
                if (trunk[volume] == part) hangTrunk(volume, twin);
            }
        }

        /** In how many places each thing is. */
        private void countPlaces(int[] places) {
            Arrays.fill(places, 0);
            pool.addPlaces(places);
            for (int volume = 0; volume < VOLUMES; volume++) {
                int part = trunk[volume];
                if (isThing(part) && part < places.length) places[part]++;
            }
        }

        int firstWrong(int[] places) {
            countPlaces(places);
            for (int thing = 0; thing < THINGS && thing < places.length; thing++) {
                if (pool.count[thing] != places[thing]) return thing;
            }
            return NONE;
        }

        /** How many counts were wrong. */
        int mendCounts(int[] places) {
            countPlaces(places);
            int mended = 0;
            for (int thing = 0; thing < THINGS && thing < places.length; thing++) {
                if (pool.count[thing] != places[thing]) mended++;
                pool.count[thing] = places[thing];
            }
            return mended;
        }

        /** How many blocks have another number. */
        int layClose(int[] numbers) {
            int moved = pool.numberClose(numbers);
            pool.renumber(numbers);
            for (int volume = 0; volume < VOLUMES; volume++) {
                int part = trunk[volume];
                if (part >= 0 && part < numbers.length) trunk[volume] = numbers[part];
            }
            return moved;
        }

        int parentsAbove(int volume) {
            int above = 0;
            int one = volume;
            for (int i = 0; i < VOLUMES && isThere(one); i++) {
                one = parent[one];
                if (isThere(one)) above++;
            }
            return above;
        }

        boolean isSelfOrAbove(int volume, int other) {
            int one = other;
            for (int i = 0; i < VOLUMES && isThere(one); i++) {
                if (one == volume) return true;
                one = parent[one];
            }
            return false;
        }

        private boolean isRunStart(int volume, int address) {
            int block = blockAt(volume, address);
            if (block == NONE) return false;
            int ahead = address == 0 ? NONE : blockAt(volume, address - 1);
            return ahead == NONE || ahead + 1 != block;
        }

        int runsOf(int volume) {
            if (!isThere(volume)) return 0;
            int runs = 0;
            for (int address = 0; address < size[volume]; address++) {
                if (isRunStart(volume, address)) runs++;
            }
            return runs;
        }

        int runStart(int volume, int i) {
            if (!isThere(volume)) return NONE;
            int runs = 0;
            for (int address = 0; address < size[volume]; address++) {
                if (!isRunStart(volume, address)) continue;
                if (runs == i) return address;
                runs++;
            }
            return NONE;
        }

        int runLength(int volume, int first) {
            if (!isThere(volume)) return 0;
            int end = first + 1;
            while (end < size[volume] && blockAt(volume, end) != NONE && !isRunStart(volume, end)) end++;
            return end - first;
        }
    }

    /** The latest steps, the oldest first: each as all was ahead of it. */
    private static final class Past {
        final State[] states = new State[STEPS];
        int count;

        Past() {
            for (int i = 0; i < STEPS; i++) states[i] = new State();
        }

        /** Keeps a state as the latest: one that is not needed any more, to be used again, for it. */
        State keep(State state) {
            if (count >= 0 && count < STEPS) {
                State spare = states[count];
                states[count] = state;
                count++;
                return spare;
            }
            State oldest = states[0];
            for (int i = 1; i < STEPS; i++) states[i - 1] = states[i];
            states[STEPS - 1] = state;
            return oldest;
        }

        void takeLatest(State to) {
            if (count < 1 || count > STEPS) return;
            count--;
            to.copyFrom(states[count]);
        }

        void copyFrom(Past other) {
            for (int i = 0; i < other.count && i < STEPS; i++) states[i].copyFrom(other.states[i]);
            count = other.count;
        }
    }

    /** Rows of an address and a value or NONE. */
    private static final class Rows {
        final int[] addresses;
        final int[] values;
        int count;

        Rows(int most) {
            addresses = new int[Math.max(most, 0)];
            values = new int[Math.max(most, 0)];
        }

        boolean add(int address, int value) {
            if (count < 0 || count >= addresses.length || count >= values.length) return false;
            addresses[count] = address;
            values[count] = value;
            count++;
            return true;
        }

        int told(int i, int what) {
            if (i < 0 || i >= count || i >= addresses.length || i >= values.length) return NO_ROW;
            if (what == 0) return addresses[i];
            return what == 1 ? values[i] : NO_ROW;
        }
    }

    /** The addresses at which two volumes differ, and how many pairs of parts were walked for it. */
    private static final class Difference {
        final int[] addresses = new int[ADDRESSES];
        int count;
        int walked;

        void look(State state, int volume, int other) {
            count = 0;
            walked = 0;
            if (!state.isThere(volume) || !state.isThere(other)) return;
            walk(state.pool, state.trunk[volume], state.trunk[other], TRUNK, 0);
        }

        private void walk(Pool pool, int one, int other, int kind, int from) {
            if (kind < LEAF || one == other) return;
            walked++;
            for (int place = 0; place < PLACES; place++) {
                int address = from + (place << (3 * kind));
                int mine = pool.at(one, place);
                int its = pool.at(other, place);
                if (kind > LEAF) walk(pool, mine, its, kind - 1, address);
                else if (mine != its) note(address);
            }
        }

        private void note(int address) {
            if (count < 0 || count >= ADDRESSES) return;
            addresses[count] = address;
            count++;
        }

        int addressAt(int i) {
            return i >= 0 && i < count && i < ADDRESSES ? addresses[i] : NONE;
        }
    }
}
