import java.io.IOException;
import java.nio.file.Files;
import java.nio.file.Path;
import java.util.LinkedHashMap;
import java.util.Map;
import java.util.TreeMap;

/**
 * The document, sentence by sentence. Each test quotes the sentence that it tests; a quote must stand in the
 * section that it names, and what no test has quoted is told at the end.
 */
final class Sentences {
    private static final Path DOCUMENT = Path.of("../shared/DOC.md");

    private final Check check = new Check();
    private final Map<String, String> sections = new LinkedHashMap<>();
    private final Map<String, String> left = new TreeMap<>();
    private String now = "";

    Sentences() throws IOException {
        if (!Files.isReadable(DOCUMENT)) {
            System.out.println(DOCUMENT + " is not there: quotes are not looked up");
            return;
        }
        for (String section : Files.readString(DOCUMENT).split("\n## ")) {
            int end = section.indexOf('\n');
            String text = section.substring(end < 0 ? section.length() : end).replaceAll("\\s+", " ");
            String name = section.substring(0, end < 0 ? section.length() : end).trim();
            sections.put(name, text);
            if (name.equals("Terms") || name.startsWith("Promise ")) {
                left.put(name, withoutHeads(text));
            }
        }
    }

    /** Heads of parts and calls, and where the interface draws a line, promise nothing. */
    private static String withoutHeads(String text) {
        return text.replaceAll("Ahead of the calls [^:]*: ---- [a-z ]+\\.", " ")
            .replaceAll("======== \\d", " ").replaceAll("`[^`]*`:", " ");
    }

    /** The test of a sentence begins. */
    void of(String section, String sentence) {
        now = section + " \"" + sentence + "\": ";
        if (sections.isEmpty()) {
            return;
        }
        check.holds(now + "stands in the document", sections.getOrDefault(section, "").contains(sentence));
        if (left.containsKey(section)) {
            left.put(section, left.get(section).replace(sentence, " "));
        }
    }

    void ofTerms(String sentence) {
        of("Terms", sentence);
    }

    void run(DistrictCutter x, String calls) {
        Script.run(check, now, x, calls);
    }

    /** As run(), on a new object. */
    void run(String calls) {
        run(new DistrictCutter(), calls);
    }

    void due(String call, long got, long want) {
        check.due(now + call, got, want);
    }

    void holds(String what, boolean is) {
        check.holds(now + what, is);
    }

    void ats(DistrictCutter x, int... districts) {
        Lands.ats(check, now, x, districts);
    }

    /** Of one number in a call, '?', the least and the greatest are taken, and what is beyond them is refused. */
    void within(String making, String call, int least, int greatest) {
        int[] beyond = {Integer.MIN_VALUE, least - 1, greatest + 1, Integer.MAX_VALUE};
        for (int value : beyond) {
            run(Script.made(making), call.replace("?", "" + value) + " = NONE");
        }
        for (int value : new int[] {least, greatest}) {
            String taken = call.replace("?", "" + value);
            holds(taken + " is not refused", Script.ask(Script.made(making), taken) != DistrictCutter.NONE);
        }
    }

    void end(String test) {
        for (Map.Entry<String, String> section : left.entrySet()) {
            String rest = section.getValue().replaceAll("[^\\w]+", " ").trim();
            check.holds(section.getKey() + ": no test has the words: " + rest, rest.isEmpty());
        }
        check.end(test);
    }
}
