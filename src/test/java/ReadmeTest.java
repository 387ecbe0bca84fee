import java.io.IOException;
import java.lang.reflect.Method;
import java.lang.reflect.Modifier;
import java.nio.file.DirectoryStream;
import java.nio.file.Files;
import java.nio.file.Path;
import java.util.ArrayList;
import java.util.List;
import java.util.Map;
import java.util.TreeMap;
import java.util.regex.Matcher;
import java.util.regex.Pattern;

/** README.md is held to the class: its examples are made, and nothing of the face or of the tests is left out. */
public final class ReadmeTest {
    private static final Pattern EXAMPLE = Pattern.compile("(?s)```java\n(.*?)```");
    private static final Pattern CALL = Pattern.compile(
        "(?:(Float\\.intBitsToFloat|Double\\.longBitsToDouble)\\()?x\\.(\\w+)\\(([^()]*)\\)\\)?; +// ([^ :]+)(?:: .*)?");
    private static final Pattern TOLD = Pattern.compile("`(\\w+)\\(([^()`]*)\\)`");
    private static final String NEW = "ThinVolumes x = new ThinVolumes();";

    private final Check check = new Check("ReadmeTest");
    private final Map<String, Method> face = new TreeMap<>();
    private final String text;
    private ThinVolumes x;

    private ReadmeTest() throws IOException {
        text = Files.readString(Path.of("README.md"));
        for (Method m : ThinVolumes.class.getDeclaredMethods()) {
            if (Modifier.isPublic(m.getModifiers())) face.put(m.getName(), m);
        }
    }

    private static String[] words(String list) {
        return list.isBlank() ? new String[0] : list.strip().split(" *, *");
    }

    private static Object argument(String word) {
        if (word.equals("true") || word.equals("false")) return Boolean.valueOf(word);
        return word.equals("ThinVolumes.NONE") ? ThinVolumes.NONE : Integer.parseInt(word);
    }

    private static String answer(String bitsOf, Object got) {
        if (bitsOf == null) return got.toString();
        if (got instanceof Integer bits) return String.valueOf(Float.intBitsToFloat(bits));
        return String.valueOf(Double.longBitsToDouble((Long) got));
    }

    private void makeCall(String line) throws ReflectiveOperationException {
        if (line.equals(NEW)) {
            x = new ThinVolumes();
            return;
        }
        Matcher call = CALL.matcher(line);
        boolean isCall = call.matches() && face.containsKey(call.group(2));
        check.yes("\"" + line + "\" is a call with its answer", isCall);
        if (!isCall) return;
        String[] words = words(call.group(3));
        Object[] arguments = new Object[words.length];
        for (int i = 0; i < words.length; i++) arguments[i] = argument(words[i]);
        String got = answer(call.group(1), face.get(call.group(2)).invoke(x, arguments));
        check.same(line, got, call.group(4));
    }

    private void lookAtExamples() throws ReflectiveOperationException {
        Matcher example = EXAMPLE.matcher(text);
        int examples = 0;
        while (example.find()) {
            examples++;
            String[] lines = example.group(1).split("\n");
            check.yes("example " + examples + " begins with a new object", lines[0].equals(NEW));
            for (String line : lines) makeCall(line);
        }
        check.yes("examples were found", examples > 3);
    }

    /** The call is told with as many arguments as it has, each by one name. */
    private void lookAtFace() {
        Map<String, List<Integer>> told = new TreeMap<>();
        for (String line : text.split("\n")) {
            if (!line.startsWith("|")) continue;
            Matcher call = TOLD.matcher(line.split("\\|")[1]);
            while (call.find()) {
                told.computeIfAbsent(call.group(1), name -> new ArrayList<>()).add(words(call.group(2)).length);
            }
        }
        check.same("calls in the tables", told.keySet().toString(), face.keySet().toString());
        for (Map.Entry<String, List<Integer>> call : told.entrySet()) {
            check.due(call.getKey() + " stands in the tables", call.getValue().size(), 1);
            Method m = face.get(call.getKey());
            check.due("arguments of " + call.getKey(), call.getValue().get(0), m == null ? -1 : m.getParameterCount());
        }
    }

    private void lookAtTests() throws IOException {
        try (DirectoryStream<Path> tests = Files.newDirectoryStream(Path.of("src/test/java"), "*Test.java")) {
            for (Path test : tests) {
                String name = test.getFileName().toString().replace(".java", "");
                check.yes(name + " is told", text.contains("`" + name + "`"));
            }
        }
    }

    public static void main(String[] args) throws IOException, ReflectiveOperationException {
        ReadmeTest test = new ReadmeTest();
        test.lookAtExamples();
        test.lookAtFace();
        test.lookAtTests();
        test.check.end();
    }
}
