import java.util.ArrayList;
import java.util.HashMap;
import java.util.HashSet;
import java.util.List;
import java.util.Map;
import java.util.Set;
import java.util.TreeMap;
import java.util.TreeSet;

/**
 * The document done a second time, in another way: no count is kept; what is reachable from a
 * volume is there, and a count is the number of references found by looking. Booleans are 1 and 0.
 */
final class Model {
    static final class No extends RuntimeException {
        private static final long serialVersionUID = 1L;
    }

    private static final class Part {
        int kind;
        Integer[] in = new Integer[8];
    }

    private static final class Vol {
        int size, quota, reserve, holds, born;
        boolean keeps;
        Integer trunk, parent;
    }

    private static final class S {
        TreeMap<Integer, Part> parts = new TreeMap<>();
        TreeMap<Integer, Integer> blocks = new TreeMap<>();
        TreeMap<Integer, Vol> vols = new TreeMap<>();
        Map<Integer, Integer> told = new HashMap<>();
        int like, made;

        S copy() {
            S s = new S();
            for (var e : parts.entrySet()) {
                Part p = new Part();
                p.kind = e.getValue().kind;
                p.in = e.getValue().in.clone();
                s.parts.put(e.getKey(), p);
            }
            s.blocks.putAll(blocks);
            for (var e : vols.entrySet()) {
                Vol v = e.getValue(), w = new Vol();
                w.size = v.size; w.quota = v.quota; w.reserve = v.reserve; w.holds = v.holds;
                w.born = v.born; w.keeps = v.keeps; w.trunk = v.trunk; w.parent = v.parent;
                s.vols.put(e.getKey(), w);
            }
            s.told.putAll(told);
            s.like = like;
            s.made = made;
            return s;
        }
    }

    private interface Deed {
        int run();
    }

    private S s = new S();
    private List<S> past = new ArrayList<>();
    private S image = new S();
    private List<S> imagePast = new ArrayList<>();
    private List<int[]> stream = new ArrayList<>();
    private final List<int[]> stage = new ArrayList<>();

    // ---- references ----

    private void sweep() {
        Set<Integer> seenParts = new HashSet<>(), seenBlocks = new HashSet<>();
        for (Vol v : s.vols.values()) {
            if (v.trunk == null || !seenParts.add(v.trunk)) continue;
            for (Integer twig : s.parts.get(v.trunk).in) {
                if (twig == null || !seenParts.add(twig)) continue;
                for (Integer leaf : s.parts.get(twig).in) {
                    if (leaf == null || !seenParts.add(leaf)) continue;
                    for (Integer b : s.parts.get(leaf).in) if (b != null) seenBlocks.add(b);
                }
            }
        }
        s.parts.keySet().retainAll(seenParts);
        s.blocks.keySet().retainAll(seenBlocks);
    }

    private int placesOfPart(int part) {
        int n = 0;
        for (Vol v : s.vols.values()) if (v.trunk != null && v.trunk == part) n++;
        for (Part p : s.parts.values()) {
            if (p.kind == 0) continue;
            for (Integer i : p.in) if (i != null && i == part) n++;
        }
        return n;
    }

    private int placesOfBlock(int block) {
        int n = 0;
        for (Part p : s.parts.values()) {
            if (p.kind != 0) continue;
            for (Integer i : p.in) if (i != null && i == block) n++;
        }
        return n;
    }

    private int countOfBlock(int block) {
        Integer told = s.told.get(block);
        return told != null ? told : placesOfBlock(block);
    }

    private static int least(Set<Integer> taken, int end) {
        for (int i = 0; i < end; i++) if (!taken.contains(i)) return i;
        throw new No();
    }

    private int newPart(int kind, Integer like) {
        int n = least(s.parts.keySet(), 160);
        Part p = new Part();
        p.kind = kind;
        if (like != null) p.in = s.parts.get(like).in.clone();
        s.parts.put(n, p);
        return n;
    }

    // ---- the words of the document ----

    /** The parts on the way: trunk, twig, leaf; then the block. */
    private Integer[] way(int volume, int a) {
        Integer[] way = new Integer[4];
        way[0] = s.vols.get(volume).trunk;
        int[] at = {a / 64, a / 8 % 8, a % 8};
        for (int i = 0; i < 3; i++) way[i + 1] = way[i] == null ? null : s.parts.get(way[i]).in[at[i]];
        return way;
    }

    private Integer blk(int volume, int a) {
        return way(volume, a)[3];
    }

    private void hang(int volume, int a, int depth, Integer what) {
        if (depth == 0) s.vols.get(volume).trunk = what;
        else s.parts.get(way(volume, a)[depth - 1]).in[new int[] {a / 64, a / 8 % 8, a % 8}[depth - 1]] = what;
        sweep();
    }

    /** depth 0 trunk, 1 twig, 2 leaf. */
    private void open(int volume, int a, int depth) {
        for (int d = 0; d <= depth; d++) {
            Integer there = way(volume, a)[d];
            if (there != null && placesOfPart(there) == 1) continue;
            hang(volume, a, d, newPart(2 - d, there));
        }
    }

    private void write0(int volume, int a, int value) {
        open(volume, a, 2);
        Integer there = blk(volume, a);
        if (s.like == 1) {
            for (var e : s.blocks.entrySet()) {
                if (e.getValue() == value) {
                    hang(volume, a, 3, e.getKey());
                    return;
                }
            }
        }
        if (there != null && placesOfBlock(there) == 1) {
            s.blocks.put(there, value);
            return;
        }
        int fresh = least(s.blocks.keySet(), 96);
        s.blocks.put(fresh, value);
        hang(volume, a, 3, fresh);
    }

    private void wipe0(int volume, int a) {
        open(volume, a, 2);
        hang(volume, a, 3, null);
        for (int d = 2; d >= 0; d--) {
            for (Integer i : s.parts.get(way(volume, a)[d]).in) if (i != null) return;
            hang(volume, a, d, null);
        }
    }

    private void share0(int from, int a, int to, int b) {
        Integer block = blk(from, a);
        if (block != null) {
            open(to, b, 2);
            hang(to, b, 3, block);
        } else if (blk(to, b) != null) {
            wipe0(to, b);
        }
    }

    private void rows0(int volume, List<int[]> rows) {
        for (int[] row : rows) {
            if (row[0] >= s.vols.get(volume).size) throw new No();
            if (row[1] >= 0) write0(volume, row[0], row[1]);
            else if (blk(volume, row[0]) != null) wipe0(volume, row[0]);
        }
    }

    private int used(int volume) {
        int n = 0;
        for (int a = 0; a < 512; a++) if (blk(volume, a) != null) n++;
        return n;
    }

    private void mustBeAllowed() {
        int need = 0;
        for (int v : s.vols.keySet()) {
            if (used(v) > s.vols.get(v).quota) throw new No();
            need += Math.max(0, s.vols.get(v).reserve - used(v));
        }
        if (96 - s.blocks.size() < need) throw new No();
    }

    private boolean isWrong() {
        for (int b : s.told.keySet()) if (s.told.get(b) != placesOfBlock(b)) return true;
        return false;
    }

    private static void must(boolean b) {
        if (!b) throw new No();
    }

    private int deed(int no, Deed deed) {
        S ahead = s.copy();
        try {
            must(!isWrong());
            int answer = deed.run();
            mustBeAllowed();
            past.add(ahead);
            if (past.size() > 16) past.remove(0);
            return answer;
        } catch (No e) {
            s = ahead;
            return no;
        }
    }

    private Vol vol(int volume) {
        Vol v = s.vols.get(volume);
        must(v != null);
        return v;
    }

    private Vol open(int volume) {
        must(!vol(volume).keeps);
        return vol(volume);
    }

    private void in(int volume, int a, int n) {
        must(n >= 1 && n <= 64 && a >= 0 && a < 512 && a + n <= vol(volume).size);
    }

    private static void value(int value) {
        must(value >= 0 && value <= 999999);
    }

    // ---- what is done ----

    int make(int size, int quota) {
        return deed(-1, () -> {
            must(size >= 1 && size <= 512 && quota >= 0 && quota <= 512);
            int n = least(s.vols.keySet(), 12);
            Vol v = new Vol();
            v.size = size;
            v.quota = quota;
            v.born = s.made++;
            s.vols.put(n, v);
            return n;
        });
    }

    int take(int volume, boolean keeps) {
        return deed(-1, () -> {
            Vol from = vol(volume);
            int n = least(s.vols.keySet(), 12);
            Vol v = new Vol();
            v.size = from.size;
            v.quota = from.quota;
            v.keeps = keeps;
            v.trunk = from.trunk;
            v.parent = volume;
            v.born = s.made++;
            s.vols.put(n, v);
            return n;
        });
    }

    int write(int volume, int a, int value) {
        return deed(0, () -> {
            open(volume);
            in(volume, a, 1);
            value(value);
            write0(volume, a, value);
            return 1;
        });
    }

    int wipe(int volume, int a) {
        return deed(0, () -> {
            open(volume);
            in(volume, a, 1);
            must(blk(volume, a) != null);
            wipe0(volume, a);
            return 1;
        });
    }

    int bring(int volume, int other) {
        return deed(0, () -> {
            must(volume != other);
            open(volume).trunk = vol(other).trunk;
            vol(volume).size = vol(other).size;
            sweep();
            return 1;
        });
    }

    int size(int volume, int size) {
        return deed(0, () -> {
            must(size >= 1 && size <= 512);
            open(volume).size = size;
            for (int a = 511; a >= size; a--) if (blk(volume, a) != null) wipe0(volume, a);
            return 1;
        });
    }

    int quota(int volume, int quota) {
        return deed(0, () -> {
            must(quota >= 0 && quota <= 512);
            open(volume).quota = quota;
            return 1;
        });
    }

    int share(int volume, int a, int to, int b, int n) {
        return deed(0, () -> {
            must(volume != to);
            open(to);
            in(volume, a, n);
            in(to, b, n);
            for (int i = 0; i < n; i++) share0(volume, a + i, to, b + i);
            return 1;
        });
    }

    int graft(int volume, int a, int what, int to, int b, int where) {
        return deed(0, () -> {
            must(volume != to && what >= 0 && what <= 2 && what == where);
            open(to);
            in(volume, a, 1);
            in(to, b, 1);
            Integer thing = way(volume, a)[3 - what];
            must(thing != null);
            open(to, b, 2 - where);
            hang(to, b, 3 - where, thing);
            for (int i = vol(to).size; i < 512; i++) must(blk(to, i) == null);
            return 1;
        });
    }

    int fill(int volume, int a, int n, int value) {
        return deed(0, () -> {
            open(volume);
            in(volume, a, n);
            value(value);
            for (int i = 0; i < n; i++) write0(volume, a + i, value);
            return 1;
        });
    }

    int reserve(int volume, int blocks) {
        return deed(0, () -> {
            must(blocks >= 0 && blocks <= 96);
            open(volume).reserve = blocks;
            return 1;
        });
    }

    int hold(int volume, boolean more) {
        return deed(-1, () -> {
            int h = vol(volume).holds + (more ? 1 : -1);
            must(h >= 0 && h <= 9);
            return vol(volume).holds = h;
        });
    }

    private void drop(int volume) {
        Vol gone = s.vols.remove(volume);
        for (Vol v : s.vols.values()) if (v.parent != null && v.parent == volume) v.parent = gone.parent;
        sweep();
    }

    int prune(int n) {
        return deed(-1, () -> {
            must(n >= 0 && n <= 12);
            TreeMap<Integer, Integer> byBirth = new TreeMap<>();
            for (var e : s.vols.entrySet()) {
                if (e.getValue().keeps && e.getValue().holds == 0) byBirth.put(e.getValue().born, e.getKey());
            }
            int gone = 0;
            while (byBirth.size() > n) {
                drop(byBirth.remove(byBirth.firstKey()));
                gone++;
            }
            return gone;
        });
    }

    private List<Integer> difference(int volume, int other) {
        List<Integer> list = new ArrayList<>();
        for (int a = 0; a < 512; a++) {
            Integer x = blk(volume, a), y = blk(other, a);
            if (x == null ? y != null : !x.equals(y)) list.add(a);
        }
        return list;
    }

    private boolean both(int volume, int other) {
        return s.vols.containsKey(volume) && s.vols.containsKey(other);
    }

    int send(int volume, int other) {
        if (!both(volume, other)) return -1;
        stream = new ArrayList<>();
        for (int a : difference(volume, other)) {
            Integer b = blk(other, a);
            stream.add(new int[] {a, b == null ? -1 : s.blocks.get(b)});
        }
        return stream.size();
    }

    int receive(int volume) {
        return deed(0, () -> {
            open(volume);
            rows0(volume, stream);
            return 1;
        });
    }

    int move(int volume, int a, int to, int n) {
        return deed(0, () -> {
            open(volume);
            in(volume, a, n);
            in(volume, to, n);
            must(Math.abs(a - to) >= n);
            for (int i = 0; i < n; i++) {
                share0(volume, a + i, volume, to + i);
                if (blk(volume, a + i) != null) wipe0(volume, a + i);
            }
            return 1;
        });
    }

    int swap(int volume, int other) {
        return deed(0, () -> {
            must(volume != other);
            Vol v = open(volume), w = open(other);
            Integer trunk = v.trunk;
            int size = v.size;
            v.trunk = w.trunk;
            v.size = w.size;
            w.trunk = trunk;
            w.size = size;
            return 1;
        });
    }

    int stage(int a, int value) {
        if (a < 0 || a > 511 || value < -1 || value > 999999 || stage.size() == 16) return -1;
        stage.add(new int[] {a, value});
        return stage.size();
    }

    int commit(int volume) {
        int done = deed(0, () -> {
            open(volume);
            rows0(volume, stage);
            return 1;
        });
        if (done == 1) stage.clear();
        return done;
    }

    int merge() {
        return deed(-1, () -> {
            int were = s.blocks.size();
            Map<Integer, Integer> least = new HashMap<>();
            for (var e : s.blocks.entrySet()) least.putIfAbsent(e.getValue(), e.getKey());
            for (Part p : s.parts.values()) {
                for (int i = 0; i < 8 && p.kind == 0; i++) {
                    if (p.in[i] != null) p.in[i] = least.get(s.blocks.get(p.in[i]));
                }
            }
            sweep();
            return were - s.blocks.size();
        });
    }

    int fold() {
        return deed(-1, () -> {
            int were = s.parts.size();
            for (int kind = 0; kind <= 2; kind++) {
                Map<List<Integer>, Integer> least = new HashMap<>();
                Map<Integer, Integer> instead = new HashMap<>();
                for (var e : s.parts.entrySet()) {
                    if (e.getValue().kind != kind) continue;
                    List<Integer> in = new ArrayList<>();
                    for (Integer i : e.getValue().in) in.add(i);
                    least.putIfAbsent(in, e.getKey());
                    instead.put(e.getKey(), least.get(in));
                }
                for (Part p : s.parts.values()) {
                    for (int i = 0; i < 8 && p.kind == kind + 1; i++) p.in[i] = p.in[i] == null ? null : instead.get(p.in[i]);
                }
                for (Vol v : s.vols.values()) if (kind == 2 && v.trunk != null) v.trunk = instead.get(v.trunk);
                sweep();
            }
            return were - s.parts.size();
        });
    }

    int free(int volume) {
        return deed(-1, () -> {
            must(vol(volume).holds == 0);
            int were = s.blocks.size();
            drop(volume);
            return were - s.blocks.size();
        });
    }

    int like(int like) {
        return deed(0, () -> {
            must(like == 0 || like == 1);
            s.like = like;
            return 1;
        });
    }

    private void keepPast() {
        past.add(s.copy());
        if (past.size() > 16) past.remove(0);
    }

    int spoil(int block, int count) {
        if (!s.blocks.containsKey(block) || count < 1 || count > 999) return 0;
        keepPast();
        if (count == placesOfBlock(block)) s.told.remove(block);
        else s.told.put(block, count);
        return 1;
    }

    int mend() {
        keepPast();
        int n = s.told.size();
        s.told.clear();
        return n;
    }

    int close() {
        return deed(-1, () -> {
            S to = new S();
            to.like = s.like;
            to.made = s.made;
            Map<Integer, Integer> blocks = new HashMap<>(), parts = new HashMap<>();
            int moved = 0;
            for (int b : s.blocks.keySet()) {
                if (b != blocks.size()) moved++;
                to.blocks.put(blocks.size(), s.blocks.get(b));
                blocks.put(b, blocks.size());
            }
            for (int p : s.parts.keySet()) parts.put(p, parts.size());
            for (int p : s.parts.keySet()) {
                Part q = s.parts.get(p);
                for (int i = 0; i < 8; i++) if (q.in[i] != null) q.in[i] = (q.kind == 0 ? blocks : parts).get(q.in[i]);
                to.parts.put(parts.get(p), q);
            }
            to.vols = s.vols;
            for (Vol v : to.vols.values()) if (v.trunk != null) v.trunk = parts.get(v.trunk);
            s = to;
            return moved;
        });
    }

    int undo() {
        if (past.isEmpty()) return -1;
        s = past.remove(past.size() - 1);
        return past.size();
    }

    // ---- what is told ----

    int is(int what) {
        int mapped = 0, need = 0, sum = 0, most = 0, leaves = 0;
        for (int v : s.vols.keySet()) {
            mapped += used(v);
            need += Math.max(0, s.vols.get(v).reserve - used(v));
        }
        for (int b : s.blocks.keySet()) {
            sum += countOfBlock(b);
            most = Math.max(most, countOfBlock(b));
        }
        for (Part p : s.parts.values()) if (p.kind == 0) leaves++;
        int[] all = {s.vols.size(), s.blocks.size(), s.parts.size(), mapped, s.like, leaves, sum, most, s.made, need,
            stream.size(), stage.size()};
        return what >= 0 && what < all.length ? all[what] : -1;
    }

    private static int orNone(Integer i) {
        return i == null ? -1 : i;
    }

    /** Part by part, which lose all their places when these volumes go; then the blocks. */
    private int freed(Set<Integer> vols) {
        Map<Integer, Integer> lost = new HashMap<>();
        for (int v : vols) if (s.vols.get(v).trunk != null) lost.merge(s.vols.get(v).trunk, 1, Integer::sum);
        Map<Integer, Integer> lostBlocks = new HashMap<>();
        for (int kind = 2; kind >= 0; kind--) {
            for (var e : s.parts.entrySet()) {
                if (e.getValue().kind != kind || lost.getOrDefault(e.getKey(), 0) < placesOfPart(e.getKey())) continue;
                for (Integer i : e.getValue().in) if (i != null) (kind == 0 ? lostBlocks : lost).merge(i, 1, Integer::sum);
            }
        }
        int n = 0;
        for (int b : lostBlocks.keySet()) if (lostBlocks.get(b) >= countOfBlock(b)) n++;
        return n;
    }

    private List<Integer> parents(int volume) {
        List<Integer> list = new ArrayList<>();
        for (Integer v = volume; v != null; v = s.vols.get(v).parent) list.add(v);
        return list;
    }

    private List<int[]> runs(int volume) {
        List<int[]> runs = new ArrayList<>();
        int[] last = null;
        for (int a = 0; a < 512; a++) {
            Integer b = blk(volume, a);
            if (b == null) {
                last = null;
            } else if (last != null && last[1] + last[2] == b) {
                last[2]++;
            } else {
                runs.add(last = new int[] {a, b, 1});
            }
        }
        return runs;
    }

    int of(int volume, int what) {
        Vol v = s.vols.get(volume);
        if (v == null) return -1;
        int[] all = {v.size, v.quota, v.keeps ? 1 : 0, used(volume), orNone(v.trunk), freed(Set.of(volume)), v.reserve,
            v.holds, orNone(v.parent), v.born, parents(volume).size() - 1, runs(volume).size()};
        return what >= 0 && what < all.length ? all[what] : -1;
    }

    private boolean isIn(int volume, int a) {
        return s.vols.containsKey(volume) && a >= 0 && a < s.vols.get(volume).size;
    }

    private int value(int volume, int a) {
        Integer b = blk(volume, a);
        return b == null ? 0 : s.blocks.get(b);
    }

    int read(int volume, int a) {
        return isIn(volume, a) ? value(volume, a) : -1;
    }

    int block(int volume, int a) {
        return isIn(volume, a) ? orNone(blk(volume, a)) : -1;
    }

    int ofBlock(int b, int what) {
        if (!s.blocks.containsKey(b) || what < 0 || what > 2) return -1;
        return new int[] {s.blocks.get(b), countOfBlock(b), placesOfBlock(b)}[what];
    }

    int ofPart(int p, int what) {
        if (!s.parts.containsKey(p) || what < 0 || what > 2) return -1;
        int n = 0;
        for (Integer i : s.parts.get(p).in) if (i != null) n++;
        return new int[] {s.parts.get(p).kind, placesOfPart(p), n}[what];
    }

    int place(int p, int place) {
        return s.parts.containsKey(p) && place >= 0 && place < 8 ? orNone(s.parts.get(p).in[place]) : -1;
    }

    int owners(int b) {
        if (!s.blocks.containsKey(b)) return -1;
        int n = 0;
        for (int v : s.vols.keySet()) {
            boolean has = false;
            for (int a = 0; a < 512; a++) has |= Integer.valueOf(b).equals(blk(v, a));
            if (has) n++;
        }
        return n;
    }

    int wrong() {
        for (int b : new TreeSet<>(s.told.keySet())) return b;
        return -1;
    }

    private static int ith(List<Integer> list, int i) {
        if (i == -1) return list.size();
        return i >= 0 && i < list.size() ? list.get(i) : -1;
    }

    int differs(int volume, int other, int i) {
        return both(volume, other) ? ith(difference(volume, other), i) : -1;
    }

    int walked(int volume, int other) {
        if (!both(volume, other)) return -1;
        Set<List<Integer>> walked = new HashSet<>();
        for (int a = 0; a < 512; a++) {
            Integer[] x = way(volume, a), y = way(other, a);
            for (int d = 0; d < 3; d++) {
                if (x[d] == null ? y[d] == null : x[d].equals(y[d])) break;
                walked.add(List.of(d, a >> (9 - 3 * d)));
            }
        }
        return walked.size();
    }

    int changed(int volume, int other, int i) {
        if (!both(volume, other)) return -1;
        List<Integer> list = new ArrayList<>();
        for (int a = 0; a < 512; a++) if (value(volume, a) != value(other, a)) list.add(a);
        return ith(list, i);
    }

    int frees(int volumes) {
        Set<Integer> set = new HashSet<>();
        for (int v = 0; v < 32; v++) if ((volumes & 1 << v) != 0) set.add(v);
        return s.vols.keySet().containsAll(set) ? freed(set) : -1;
    }

    int heaviest() {
        int best = -1, most = -1;
        for (int v : s.vols.keySet()) {
            if (freed(Set.of(v)) > most) {
                best = v;
                most = freed(Set.of(v));
            }
        }
        return best;
    }

    int path(int volume, int a, int i) {
        return isIn(volume, a) && i >= 0 && i < 3 ? orNone(way(volume, a)[i]) : -1;
    }

    int find(int value) {
        for (int v : s.vols.keySet()) {
            for (int a = 0; a < 512; a++) if (blk(v, a) != null && value(v, a) == value) return 512 * v + a;
        }
        return -1;
    }

    int times(int volume, int value) {
        if (!s.vols.containsKey(volume)) return -1;
        int n = 0;
        for (int a = 0; a < 512; a++) if (blk(volume, a) != null && value(volume, a) == value) n++;
        return n;
    }

    int counted(int count) {
        if (count < 1) return -1;
        int n = 0;
        for (int b : s.blocks.keySet()) if (countOfBlock(b) == count) n++;
        return n;
    }

    int hottest() {
        int best = -1;
        for (int b : s.blocks.keySet()) if (best < 0 || countOfBlock(b) > countOfBlock(best)) best = b;
        return best;
    }

    int leaves(int b) {
        if (!s.blocks.containsKey(b)) return -1;
        int n = 0;
        for (Part p : s.parts.values()) if (p.kind == 0 && has(p, b)) n++;
        return n;
    }

    private static boolean has(Part p, int b) {
        for (Integer i : p.in) if (i != null && i == b) return true;
        return false;
    }

    int parts(int volume, int what) {
        if (!s.vols.containsKey(volume) || what < 0 || what > 2) return -1;
        Set<Integer> found = new HashSet<>();
        for (int a = 0; a < 512; a++) if (way(volume, a)[2 - what] != null) found.add(way(volume, a)[2 - what]);
        return found.size();
    }

    private static int row(List<int[]> rows, int i, int what) {
        return i >= 0 && i < rows.size() && (what == 0 || what == 1) ? rows.get(i)[what] : -2;
    }

    int staged(int i, int what) {
        return row(stage, i, what);
    }

    int stream(int i, int what) {
        return row(stream, i, what);
    }

    int children(int volume) {
        if (!s.vols.containsKey(volume)) return -1;
        int bits = 0;
        for (var e : s.vols.entrySet()) if (e.getValue().parent != null && e.getValue().parent == volume) bits |= 1 << e.getKey();
        return bits;
    }

    int nearest(int volume, int other) {
        if (!both(volume, other)) return -1;
        List<Integer> shared = parents(volume);
        shared.retainAll(parents(other));
        return shared.isEmpty() ? -1 : shared.get(0);
    }

    int run(int volume, int i, int what) {
        if (!s.vols.containsKey(volume) || i < 0 || what < 0 || what > 2) return -1;
        return i < runs(volume).size() ? runs(volume).get(i)[what] : -1;
    }

    int next(int volume, int a) {
        if (!isIn(volume, a)) return -1;
        for (int b = a; b < 512; b++) if (blk(volume, b) != null) return b;
        return -1;
    }

    int needs(int volume, int a, int value, int what) {
        if (what < 0 || what > 1) return -1;
        S ahead = s.copy();
        List<S> pastAhead = new ArrayList<>(past);
        int parts = s.parts.size(), blocks = s.blocks.size();
        int done = write(volume, a, value);
        int more = what == 0 ? Math.max(0, s.blocks.size() - blocks) : s.parts.size() - parts;
        s = ahead;
        past = pastAhead;
        return done == 1 ? more : -1;
    }

    int saved() {
        return s.blocks.isEmpty() ? 0 : Float.floatToIntBits((float) is(3) / (float) s.blocks.size());
    }

    int full(int volume) {
        return s.vols.containsKey(volume) ? (int) (used(volume) * 1000.0 / s.vols.get(volume).size) : -1;
    }

    long mean(int volume) {
        if (!s.vols.containsKey(volume) || used(volume) == 0) return 0;
        double sum = 0;
        for (int a = 0; a < 512; a++) sum += value(volume, a);
        return Double.doubleToLongBits(sum / used(volume));
    }

    int digest(int volume) {
        int h = 0;
        for (int a = 0; s.vols.containsKey(volume) && a < s.vols.get(volume).size; a++) h = 31 * h + value(volume, a);
        return h;
    }

    int image() {
        image = s.copy();
        imagePast = new ArrayList<>();
        for (S p : past) imagePast.add(p.copy());
        return s.vols.size();
    }

    int back() {
        s = image.copy();
        past = new ArrayList<>();
        for (S p : imagePast) past.add(p.copy());
        return s.vols.size();
    }

    int steps() {
        return past.size();
    }
}
