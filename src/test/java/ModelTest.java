import java.lang.reflect.InvocationTargetException;
import java.lang.reflect.Method;
import java.util.ArrayDeque;
import java.util.Arrays;
import java.util.HashMap;
import java.util.Map;
import java.util.Random;

/** Random runs of calls, ordinary and wrong ones, on the class and on the Model: like answers. */
public final class ModelTest {
    /** A call's name and what its arguments are: see argument(). */
    private static final String[] DEEDS = {
        "make sq", "take vt", "write vax", "write vax", "write vax", "wipe va", "wipe va", "bring vv", "size vs",
        "quota vq", "share vavan", "share vavan", "graft vakvak", "graft vagvag", "graft vagvag", "fill vanx", "fill vanx", "reserve vr", "hold vt", "prune l",
        "send vv", "receive v", "move vaan", "swap vv", "stage ax", "stage a-", "commit v", "merge", "fold", "free v",
        "like f", "spoil bc", "mend", "mend", "close", "undo", "image", "back",
    };
    private static final String[] TOLD = {
        "is w", "of vw", "read va", "block va", "ofBlock bk", "ofPart pk", "place pi", "owners b", "wrong",
        "differs vvi", "walked vv", "changed vvi", "frees m", "heaviest", "path vak", "find x", "times vx",
        "counted c", "hottest", "leaves b", "parts vk", "staged ik", "stream ik", "children v", "nearest vv",
        "run vik", "next va", "needs vaxk", "saved", "full v", "mean v", "digest v", "steps",
    };

    private final Map<String, Method> real = methods(Tape.class);
    private final Map<String, Method> model = methods(Model.class);
    private final Check check = new Check("ModelTest");
    private final ArrayDeque<String> calls = new ArrayDeque<>();
    private final Map<String, int[]> done = new HashMap<>();
    private Random random;
    private Tape x;
    private Model y;
    private boolean sparse, wide, mischief, calm;
    private int lastVolume, graftKind;
    /** How seldom an argument is odd: one of so many. */
    private int seldomOdd;
    private int mostBlocks, mostParts;

    private static Map<String, Method> methods(Class<?> of) {
        Map<String, Method> map = new HashMap<>();
        for (Method m : of.getDeclaredMethods()) {
            if (!java.lang.reflect.Modifier.isPrivate(m.getModifiers())) map.put(m.getName(), m);
        }
        return map;
    }

    private int some(int... of) {
        return of[random.nextInt(of.length)];
    }

    /** The last on this side of each bound of the document, the first beyond it, and the ends of an int. */
    private int odd() {
        return some(-2, -1, 0, 1, 2, 3, 7, 8, 9, 10, 11, 12, 13, 15, 16, 17, 63, 64, 65, 95, 96, 97, 159, 160, 511, 512, 513,
            999, 1000, 999999, 1000000, Integer.MIN_VALUE, Integer.MIN_VALUE + 1, Integer.MAX_VALUE - 1, Integer.MAX_VALUE);
    }

    private int address() {
        if (sparse && random.nextInt(4) > 0) return random.nextInt(64) * 8 + (wide ? random.nextInt(2) : 0);
        return wide ? random.nextInt(512) : random.nextInt(some(8, 40, 140));
    }

    private int mapped() {
        int from = address();
        int found = y.next(lastVolume, from);
        return found < 0 ? from : found;
    }

    private Object argument(char kind) {
        if (kind == 't') return random.nextInt(3) > 0;
        if (kind == '-') return -1;
        if (random.nextInt(seldomOdd) == 0) return odd();
        switch (kind) {
            case 'v': return lastVolume = random.nextInt(12) == 0 ? random.nextInt(13) : random.nextInt(Math.min(12, Math.max(1, y.is(0))));
            case 'a': return random.nextInt(5) > 2 ? address() : mapped();
            case 'g': return graftKind;
            case 'x': return random.nextInt(3) > 0 ? random.nextInt(6) : random.nextInt(1000000);
            case 's': return random.nextInt(3) > 0 ? some(512, 512, 64, 100) : 1 + random.nextInt(512);
            case 'q': return random.nextInt(3) > 0 ? 512 : random.nextInt(200);
            case 'n': return random.nextInt(4) > 0 ? 1 + random.nextInt(10) : some(64, 63, 65, 0, 1, 20, 33);
            case 'k': return random.nextInt(20) == 0 ? some(-1, 3) : random.nextInt(3);
            case 'r': return random.nextInt(4) > 0 ? random.nextInt(12) : random.nextInt(98);
            case 'l': return random.nextInt(3) > 0 ? 1 + random.nextInt(6) : random.nextInt(13);
            case 'f': return random.nextInt(2);
            case 'b': return random.nextInt(3) > 0 ? random.nextInt(Math.max(1, y.is(1))) : random.nextInt(97);
            case 'p': return random.nextInt(3) > 0 ? random.nextInt(Math.max(1, y.is(2))) : random.nextInt(161);
            case 'c': return random.nextInt(3) > 0 ? 1 + random.nextInt(4) : some(0, 1, 999, 1000);
            case 'w': return random.nextInt(14) - 1;
            case 'i': return random.nextInt(4) > 0 ? random.nextInt(9) - 1 : random.nextInt(70);
            case 'm': return random.nextInt(8) == 0 ? random.nextInt() : random.nextInt(1 << Math.min(12, y.is(0)));
            default: throw new IllegalStateException("no such kind");
        }
    }

    private static long number(Object o) {
        if (o instanceof Boolean b) return b ? 1 : 0;
        return ((Number) o).longValue();
    }

    private void call(int run, String told) throws ReflectiveOperationException {
        String[] words = told.split(" ");
        String kinds = words.length > 1 ? words[1] : "";
        Object[] arguments = new Object[kinds.length()];
        for (int i = 0; i < arguments.length; i++) arguments[i] = argument(kinds.charAt(i));
        graftKind = random.nextInt(3);
        callBoth(run, words[0], arguments);
    }

    private void callBoth(int run, String name, Object... arguments) throws ReflectiveOperationException {
        String text = name + Arrays.toString(arguments);
        calls.add(text);
        long want = number(model.get(name).invoke(y, arguments));
        long got;
        try {
            got = number(real.get(name).invoke(x, arguments));
        } catch (InvocationTargetException e) {
            got = Long.MIN_VALUE;
            e.getCause().printStackTrace(System.out);
        }
        boolean isDone = want > 0 || want == 0 && real.get(name).getReturnType() == int.class;
        done.computeIfAbsent(name, k -> new int[2])[isDone ? 0 : 1]++;
        check.due("run " + run + " " + text, got, want);
    }

    /** A pool that is nearly full from the start: of parts, of blocks, or of nothing. */
    private void crowd(int run) throws ReflectiveOperationException {
        int kind = run / 2 % 4;
        callBoth(run, "make", 512, 512);
        callBoth(run, "make", 512, 512);
        callBoth(run, "like", kind & 1);
        int sparsely = (kind & 1) * (40 + random.nextInt(24));
        for (int i = 0; i < sparsely; i++) callBoth(run, "write", 0, 8 * i + i % 8, i % 7);
        callBoth(run, "take", 0, false);
        for (int i = 0; i < sparsely; i++) callBoth(run, "write", 2, 8 * i + 1, i % 5);
        if (kind < 2) return;
        callBoth(run, "like", 0);
        callBoth(run, "fill", 1, random.nextInt(200), 64, 5);
        callBoth(run, "fill", 1, 300, 1 + random.nextInt(24), 6);
        callBoth(run, "take", 1, true);
    }

    private void lookAtAll(int run) {
        for (int i = 0; i <= 11; i++) check.due("run " + run + " is " + i, x.is(i), y.is(i));
        for (int v = 0; v < 12; v++) {
            for (int i = 0; i <= 11; i++) check.due("run " + run + " of " + v + " " + i, x.of(v, i), y.of(v, i));
        }
        for (int b = 0; b < 96; b++) {
            for (int i = 0; i <= 2; i++) check.due("run " + run + " ofBlock " + b + " " + i, x.ofBlock(b, i), y.ofBlock(b, i));
        }
        for (int p = 0; p < 160; p++) {
            for (int i = 0; i <= 1; i++) check.due("run " + run + " ofPart " + p + " " + i, x.ofPart(p, i), y.ofPart(p, i));
            for (int i = 0; i < 8; i++) check.due("run " + run + " place " + p + " " + i, x.place(p, i), y.place(p, i));
        }
        check.due("run " + run + " wrong", x.wrong(), y.wrong());
    }

    private boolean isSkipped(String deed) {
        if (deed.startsWith("spoil") && !mischief) return true;
        if (calm && (deed.startsWith("back") || deed.startsWith("undo") || deed.startsWith("size"))) return true;
        if (deed.startsWith("back")) return random.nextInt(8) > 0;
        if (deed.startsWith("undo")) return random.nextInt(3) > 0;
        String[] seldom = {"image", "prune", "free", "bring", "size", "merge", "fold", "close", "mend", "receive", "commit", "hold", "quota", "make"};
        for (String name : seldom) if (deed.startsWith(name)) return random.nextInt(calm ? 12 : 4) > 0;
        return false;
    }

    private void run(int run, int length) throws ReflectiveOperationException {
        random = new Random(run);
        x = new Tape();
        y = new Model();
        calls.clear();
        sparse = run % 3 == 0;
        wide = run % 2 == 0;
        mischief = run % 5 == 0;
        calm = run % 4 > 0;
        seldomOdd = run % 7 == 6 ? 3 : 60;
        crowd(run);
        for (int i = 0; i < length && !check.isWrong(); i++) {
            String deed = DEEDS[random.nextInt(DEEDS.length)];
            if (y.is(0) < 2) deed = "make sq";
            if (!isSkipped(deed)) call(run, deed);
            call(run, TOLD[random.nextInt(TOLD.length)]);
            mostBlocks = Math.max(mostBlocks, y.is(1));
            mostParts = Math.max(mostParts, y.is(2));
            if (i % 20 == 19 || i == length - 1) lookAtAll(run);
        }
        if (!check.isWrong()) return;
        for (String call : calls) System.out.println("  " + call);
    }

    public static void main(String[] args) throws ReflectiveOperationException {
        int runs = args.length > 0 ? Integer.parseInt(args[0]) : 100;
        ModelTest test = new ModelTest();
        for (int run = 0; run < runs && !test.check.isWrong(); run++) test.run(run, 250);
        System.out.println("ModelTest: up to " + test.mostBlocks + " blocks, " + test.mostParts + " parts at once");
        if (args.length > 0) test.done.forEach((name, n) -> System.out.println(name + " done " + n[0] + " refused " + n[1]));
        test.check.end();
    }
}
