import java.lang.reflect.Constructor;
import java.lang.reflect.Field;
import java.lang.reflect.Method;
import java.lang.reflect.Modifier;
import java.nio.file.Files;
import java.nio.file.Path;
import java.util.Set;
import java.util.TreeSet;
import java.util.regex.Matcher;
import java.util.regex.Pattern;

/** The public face is the document's, and nothing else is seen from outside; LANGUAGE.md's plainest rules. */
public final class FaceTest {
    private static final String FACE = """
        int make(int size, int quota)
        int take(int volume, boolean keeps)
        boolean write(int volume, int address, int value)
        boolean wipe(int volume, int address)
        boolean bring(int volume, int other)
        boolean size(int volume, int size)
        boolean quota(int volume, int quota)
        boolean share(int volume, int address, int to, int toAddress, int n)
        boolean graft(int volume, int address, int what, int to, int toAddress, int where)
        boolean fill(int volume, int address, int n, int value)
        boolean reserve(int volume, int blocks)
        int hold(int volume, boolean more)
        int prune(int n)
        int send(int volume, int other)
        boolean receive(int volume)
        boolean move(int volume, int address, int to, int n)
        boolean swap(int volume, int other)
        int stage(int address, int value)
        boolean commit(int volume)
        int merge()
        int fold()
        int free(int volume)
        boolean like(int like)
        boolean spoil(int block, int count)
        int mend()
        int close()
        int undo()
        int is(int what)
        int of(int volume, int what)
        int read(int volume, int address)
        int block(int volume, int address)
        int ofBlock(int block, int what)
        int ofPart(int part, int what)
        int place(int part, int place)
        int owners(int block)
        int wrong()
        int differs(int volume, int other, int i)
        int walked(int volume, int other)
        int changed(int volume, int other, int i)
        int frees(int volumes)
        int heaviest()
        int path(int volume, int address, int i)
        int find(int value)
        int times(int volume, int value)
        int counted(int count)
        int hottest()
        int leaves(int block)
        int parts(int volume, int what)
        int staged(int i, int what)
        int stream(int i, int what)
        int children(int volume)
        int nearest(int volume, int other)
        int run(int volume, int i, int what)
        int next(int volume, int address)
        int needs(int volume, int address, int value, int what)
        int saved()
        int full(int volume)
        long mean(int volume)
        int digest(int volume)
        int image()
        int back()
        int steps()
        """;

    private static String plain(Method m) {
        StringBuilder text = new StringBuilder(m.getReturnType() + " " + m.getName() + "(");
        for (Class<?> type : m.getParameterTypes()) text.append(type).append(' ');
        return text.append(')').toString();
    }

    private static String plain(String line) {
        return line.strip().replaceAll("(int|boolean|long) \\w+(, )?(?=[^(]*\\))", "$1 ");
    }

    private static void lookAtMembers(Check check) {
        Set<String> want = new TreeSet<>();
        Set<String> names = new TreeSet<>();
        for (String line : FACE.strip().split("\n")) {
            want.add(plain(line));
            names.add(line.strip().split("[ (]")[1]);
        }
        Set<String> got = new TreeSet<>();
        for (Method m : ThinVolumes.class.getDeclaredMethods()) {
            if (Modifier.isPublic(m.getModifiers())) got.add(plain(m));
            else check.yes(m.getName() + " is private, with a name of its own",
                Modifier.isPrivate(m.getModifiers()) && !names.contains(m.getName()));
        }
        check.same("the face", got.toString(), want.toString());
        for (Field f : ThinVolumes.class.getDeclaredFields()) {
            check.yes(f.getName() + " is private", Modifier.isPrivate(f.getModifiers()) || f.getName().equals("NONE"));
            check.yes(f.getName() + " is final if it is static",
                !Modifier.isStatic(f.getModifiers()) || Modifier.isFinal(f.getModifiers()));
        }
        Constructor<?>[] constructors = ThinVolumes.class.getDeclaredConstructors();
        check.due("constructors", constructors.length, 1);
        check.yes("it is public", Modifier.isPublic(constructors[0].getModifiers()));
        check.due("its parameters", constructors[0].getParameterCount(), 0);
        check.yes("the class is final", Modifier.isFinal(ThinVolumes.class.getModifiers()));
        for (Class<?> inside : ThinVolumes.class.getDeclaredClasses()) {
            check.yes(inside + " is static", Modifier.isStatic(inside.getModifiers()));
            for (Method m : inside.getDeclaredMethods()) {
                check.no(inside + " has a method named as the face's " + m.getName(), names.contains(m.getName()));
            }
        }
        check.due("NONE", ThinVolumes.NONE, -1);
    }

    private static void lookAtText(Check check) throws java.io.IOException {
        String text = Files.readString(Path.of("src/main/java/ThinVolumes.java"));
        String[] never = {"\\bcatch\\b", "\\bfinally\\b", "->", "::", "\\bFloat\\.", "\\bDouble\\.", "Exact\\b",
            "\\bSystem\\.(?!arraycopy)", "\\bMath\\.(?!max|min|abs)", "\\bassert\\b", "\\bsynchronized\\b",
            "import (?!java\\.util\\.Arrays;)", "\\bpackage\\b", "\\bInteger\\."};
        for (String word : never) check.no("the class has " + word, Pattern.compile(word).matcher(text).find());
        Matcher method = Pattern.compile("(?m)^( +)(?:\\w+(?:\\[\\])? )+\\w+\\([^;{]*\\) \\{\n(.*?)^\\1\\}", Pattern.DOTALL).matcher(text);
        int methods = 0;
        while (method.find()) {
            methods++;
            check.yes("short: " + method.group().strip().split("\n")[0], method.group(2).split("\n").length <= 60);
        }
        check.yes("methods were found in the text", methods > 100);
    }

    public static void main(String[] args) throws java.io.IOException {
        Check check = new Check("FaceTest");
        lookAtMembers(check);
        lookAtText(check);
        check.end();
    }
}
