import java.io.IOException;
import java.nio.file.Files;
import java.nio.file.Path;
import java.util.ArrayList;
import java.util.LinkedHashMap;
import java.util.LinkedHashSet;
import java.util.List;
import java.util.Map;
import java.util.Set;

/**
 * Names the sentence of the document that the looks which follow hold, and knows in the end which
 * sentences of the promises none was named for.
 */
final class Edges {
    private static final Path DOCUMENT = Path.of("../shared/DOC.md");

    private final Check check;
    private final String document;
    /** The sentences of each promise, by "Promise n". */
    private final Map<String, List<String>> sentences = new LinkedHashMap<>();
    private final Set<String> held = new LinkedHashSet<>();
    private String name = "";

    Edges(Check check) throws IOException {
        this.check = check;
        document = Files.exists(DOCUMENT) ? Files.readString(DOCUMENT) : "";
        for (String section : document.split("(?m)^## ")) {
            if (section.startsWith("Promise ")) readPromise(section);
        }
    }

    private void readPromise(String section) {
        String promise = section.substring(0, section.indexOf(':'));
        String told = section.substring(section.indexOf("`: ") + 3).strip();
        // Two points in a row are a range (0 .. 9), no sentence's end.
        sentences.put(promise, List.of(told.split("(?<=[^.]\\.) (?=[A-Z0-9-])")));
    }

    /** What follows holds a sentence of a promise. */
    void promise(int number, String sentence) {
        String promise = "Promise " + number;
        hold(promise, sentence);
        if (!document.isEmpty()) {
            check.yes(name + " is a sentence of it", sentences.getOrDefault(promise, List.of()).contains(sentence));
        }
    }

    /** What follows holds words of the document's Terms, for the promises that use them. */
    void terms(String words) {
        hold("Terms", words);
        if (!document.isEmpty()) check.yes(name + " stands there", document.contains(words));
    }

    private void hold(String where, String sentence) {
        name = where + " \"" + sentence + "\"";
        held.add(name);
    }

    void due(String call, long got, long want) {
        check.due(name + ": " + call, got, want);
    }

    void yes(String call, boolean got) {
        check.yes(name + ": " + call, got);
    }

    void no(String call, boolean got) {
        check.no(name + ": " + call, got);
    }

    /** Tells the first line alone that isn't the same: a look has hundreds. */
    void same(String call, String got, String want) {
        List<String> unlike = new ArrayList<>();
        String[] mine = got.split("\n");
        String[] its = want.split("\n");
        for (int i = 0; i < Math.max(mine.length, its.length) && unlike.isEmpty(); i++) {
            String one = i < mine.length ? mine[i] : "nothing";
            String other = i < its.length ? its[i] : "nothing";
            if (!one.equals(other)) unlike.addAll(List.of(one, other));
        }
        check.same(name + ": " + call, unlike.isEmpty() ? "" : unlike.get(0), unlike.isEmpty() ? "" : unlike.get(1));
    }

    /** Every sentence of every promise has a test of its own. */
    void end() {
        if (document.isEmpty()) {
            System.out.println("no " + DOCUMENT + ": its sentences are not looked at");
            return;
        }
        check.due("promises of the document", sentences.size(), 63);
        for (Map.Entry<String, List<String>> promise : sentences.entrySet()) {
            for (String sentence : promise.getValue()) {
                String its = promise.getKey() + " \"" + sentence + "\"";
                check.yes(its + " has a test", held.contains(its));
            }
        }
        System.out.println("sentences held: " + held.size());
    }
}
