import java.util.ArrayList;
import java.util.List;

/**
 * The face of the class, for tests that look often: an object is good for 512 calls, so another
 * one, to which the same was done by hand, takes its place when it has had as many.
 */
final class Tape {
    private interface Call {
        long on(ThinVolumes x);
    }

    private static final int CALLS = 512;

    private final List<Call> done = new ArrayList<>();
    private ThinVolumes x = new ThinVolumes();
    private int calls = 0;

    private long tell(Call call) {
        if (calls == CALLS) renew();
        calls++;
        return call.on(x);
    }

    private long hand(Call call) {
        long answer = tell(call);
        done.add(call);
        if (done.size() >= CALLS) throw new IllegalStateException("more was done than an object is good for");
        return answer;
    }

    private void renew() {
        x = new ThinVolumes();
        for (Call call : done) call.on(x);
        calls = done.size();
    }

    int make(int size, int quota) {
        return (int) hand(y -> y.make(size, quota));
    }

    int take(int volume, boolean keeps) {
        return (int) hand(y -> y.take(volume, keeps));
    }

    boolean write(int volume, int address, int value) {
        return hand(y -> y.write(volume, address, value) ? 1 : 0) == 1;
    }

    boolean wipe(int volume, int address) {
        return hand(y -> y.wipe(volume, address) ? 1 : 0) == 1;
    }

    boolean bring(int volume, int other) {
        return hand(y -> y.bring(volume, other) ? 1 : 0) == 1;
    }

    boolean size(int volume, int size) {
        return hand(y -> y.size(volume, size) ? 1 : 0) == 1;
    }

    boolean quota(int volume, int quota) {
        return hand(y -> y.quota(volume, quota) ? 1 : 0) == 1;
    }

    boolean share(int volume, int address, int to, int toAddress, int n) {
        return hand(y -> y.share(volume, address, to, toAddress, n) ? 1 : 0) == 1;
    }

    boolean graft(int volume, int address, int what, int to, int toAddress, int where) {
        return hand(y -> y.graft(volume, address, what, to, toAddress, where) ? 1 : 0) == 1;
    }

    boolean fill(int volume, int address, int n, int value) {
        return hand(y -> y.fill(volume, address, n, value) ? 1 : 0) == 1;
    }

    boolean reserve(int volume, int blocks) {
        return hand(y -> y.reserve(volume, blocks) ? 1 : 0) == 1;
    }

    int hold(int volume, boolean more) {
        return (int) hand(y -> y.hold(volume, more));
    }

    int prune(int n) {
        return (int) hand(y -> y.prune(n));
    }

    int send(int volume, int other) {
        return (int) hand(y -> y.send(volume, other));
    }

    boolean receive(int volume) {
        return hand(y -> y.receive(volume) ? 1 : 0) == 1;
    }

    boolean move(int volume, int address, int to, int n) {
        return hand(y -> y.move(volume, address, to, n) ? 1 : 0) == 1;
    }

    boolean swap(int volume, int other) {
        return hand(y -> y.swap(volume, other) ? 1 : 0) == 1;
    }

    int stage(int address, int value) {
        return (int) hand(y -> y.stage(address, value));
    }

    boolean commit(int volume) {
        return hand(y -> y.commit(volume) ? 1 : 0) == 1;
    }

    int merge() {
        return (int) hand(y -> y.merge());
    }

    int fold() {
        return (int) hand(y -> y.fold());
    }

    int free(int volume) {
        return (int) hand(y -> y.free(volume));
    }

    boolean like(int like) {
        return hand(y -> y.like(like) ? 1 : 0) == 1;
    }

    boolean spoil(int block, int count) {
        return hand(y -> y.spoil(block, count) ? 1 : 0) == 1;
    }

    int mend() {
        return (int) hand(y -> y.mend());
    }

    int close() {
        return (int) hand(y -> y.close());
    }

    int undo() {
        return (int) hand(y -> y.undo());
    }

    int is(int what) {
        return (int) tell(y -> y.is(what));
    }

    int of(int volume, int what) {
        return (int) tell(y -> y.of(volume, what));
    }

    int read(int volume, int address) {
        return (int) tell(y -> y.read(volume, address));
    }

    int block(int volume, int address) {
        return (int) tell(y -> y.block(volume, address));
    }

    int ofBlock(int block, int what) {
        return (int) tell(y -> y.ofBlock(block, what));
    }

    int ofPart(int part, int what) {
        return (int) tell(y -> y.ofPart(part, what));
    }

    int place(int part, int place) {
        return (int) tell(y -> y.place(part, place));
    }

    int owners(int block) {
        return (int) tell(y -> y.owners(block));
    }

    int wrong() {
        return (int) tell(y -> y.wrong());
    }

    int differs(int volume, int other, int i) {
        return (int) tell(y -> y.differs(volume, other, i));
    }

    int walked(int volume, int other) {
        return (int) tell(y -> y.walked(volume, other));
    }

    int changed(int volume, int other, int i) {
        return (int) tell(y -> y.changed(volume, other, i));
    }

    int frees(int volumes) {
        return (int) tell(y -> y.frees(volumes));
    }

    int heaviest() {
        return (int) tell(y -> y.heaviest());
    }

    int path(int volume, int address, int i) {
        return (int) tell(y -> y.path(volume, address, i));
    }

    int find(int value) {
        return (int) tell(y -> y.find(value));
    }

    int times(int volume, int value) {
        return (int) tell(y -> y.times(volume, value));
    }

    int counted(int count) {
        return (int) tell(y -> y.counted(count));
    }

    int hottest() {
        return (int) tell(y -> y.hottest());
    }

    int leaves(int block) {
        return (int) tell(y -> y.leaves(block));
    }

    int parts(int volume, int what) {
        return (int) tell(y -> y.parts(volume, what));
    }

    int staged(int i, int what) {
        return (int) tell(y -> y.staged(i, what));
    }

    int stream(int i, int what) {
        return (int) tell(y -> y.stream(i, what));
    }

    int children(int volume) {
        return (int) tell(y -> y.children(volume));
    }

    int nearest(int volume, int other) {
        return (int) tell(y -> y.nearest(volume, other));
    }

    int run(int volume, int i, int what) {
        return (int) tell(y -> y.run(volume, i, what));
    }

    int next(int volume, int address) {
        return (int) tell(y -> y.next(volume, address));
    }

    /** By hand, too: it does what it tells of, and takes it back. */
    int needs(int volume, int address, int value, int what) {
        return (int) hand(y -> y.needs(volume, address, value, what));
    }

    int saved() {
        return (int) tell(y -> y.saved());
    }

    int full(int volume) {
        return (int) tell(y -> y.full(volume));
    }

    long mean(int volume) {
        return tell(y -> y.mean(volume));
    }

    int digest(int volume) {
        return (int) tell(y -> y.digest(volume));
    }

    int image() {
        return (int) hand(y -> y.image());
    }

    int back() {
        return (int) hand(y -> y.back());
    }

    int steps() {
        return (int) tell(y -> y.steps());
    }
}
