import java.util.LinkedHashMap;
import java.util.Map;
import java.util.Set;
import java.util.TreeSet;

/**
 * The sentences of the document that name a boundary, each with a test of its own. A sentence is
 * quoted as it stands in the document, so that none is tested that has gone from it; and every line
 * of the document that tells what a call throws must have a test.
 */
final class Sentences {
    private final Check check;
    private final Map<String, String> sections = new LinkedHashMap<>();
    private final Set<String> untested = new TreeSet<>();
    private String section = "";

    Sentences(Check check, String document) {
        this.check = check;
        for (String part : document.split("(?m)^## ")) {
            String heading = part.lines().findFirst().orElse("").replaceAll(":.*", "");
            sections.put(heading, part.replaceAll("\\s+", " "));
            part.lines().filter(line -> line.startsWith("Throws "))
                    .forEach(line -> untested.add(heading + ": " + line));
        }
    }

    /** The section in which the next sentences stand. */
    void in(String heading) {
        section = heading;
    }

    void says(String sentence, Runnable test) {
        check.due(section + " says: " + sentence,
                sections.getOrDefault(section, "").contains(sentence), true);
        untested.remove(section + ": " + sentence);
        int answers = check.answers();
        int faults = check.faults();
        check.answers("its test", test);
        if (check.faults() > faults) {
            System.out.println("  against " + section + ": " + sentence);
        }
        check.due("something is tested of: " + sentence, check.answers() > answers + 1, true);
    }

    void finish() {
        check.due("lines without a test", untested.toString(), "[]");
    }
}
