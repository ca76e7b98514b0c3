import java.io.IOException;
import java.nio.file.Files;
import java.nio.file.Path;
import java.util.ArrayList;
import java.util.Arrays;
import java.util.LinkedHashMap;
import java.util.List;
import java.util.Map;
import java.util.regex.Matcher;
import java.util.regex.Pattern;

/**
 * Tests of single sentences of ../shared/DOC.md, each named by its promise (or other heading) and
 * its words. At the end the names are held against the document: the words must stand there, and
 * no word of it that tells a boundary may be without a test.
 */
final class Sentences {
    private static final Path DOCUMENT = Path.of("../shared/DOC.md");
    private static final int PROMISES = 50;

    /** It tells what the promises tell again, in other words. */
    private static final String WITHOUT_PROMISES = "What it is";

    /** Refusals, ranges, and what else tells where something begins or ends. */
    private static final Pattern BOUNDARY = Pattern.compile(
            "\\b(BAD|FULL|STATE|SPENT|NOTHING|BEYOND|UNLIKE|NOUGHT|SIZE|NONE)\\b"
            + "|\\d+ \\.\\. [\\w ]+"
            + "|\\b(above|below|at most|at least|least|greatest|first|before|none|nothing|neither|empty|missing)\\b"
            + "|\\b(cut|anew|ahead|alone|exempt)\\b");

    final Check check = new Check();
    private final Map<String, List<String>> held = new LinkedHashMap<>();

    /** A sentence of a promise holds as its test says. */
    void promise(int number, String words, Runnable test) {
        hold("Promise " + number, words, test);
    }

    /** A sentence of another heading. */
    void hold(String heading, String words, Runnable test) {
        List<String> all = held.computeIfAbsent(heading, h -> new ArrayList<>());
        check.about(heading + ", \"" + words + "\"");
        check.due("a test of its own", all.contains(words) ? 1 : 0, 0);
        all.add(words);
        test.run();
    }

    void end() throws IOException {
        check.about("the document");
        for (int number = 1; number <= PROMISES; number++) {
            check.due("sentences of Promise " + number, held.containsKey("Promise " + number) ? 1 : 0, 1);
        }
        if (Files.exists(DOCUMENT)) {
            holdAgainst(Files.readString(DOCUMENT));
        } else {
            System.out.println("no " + DOCUMENT + " here: the sentences' names are not held against it");
        }
        System.out.println(held.values().stream().mapToInt(List::size).sum() + " sentences");
        check.end();
    }

    private void holdAgainst(String document) {
        Map<String, String> sections = new LinkedHashMap<>();
        for (String section : document.split("(?m)^## ")) {
            String[] parts = section.split("\n", 2);
            sections.put(parts[0].replaceAll(":.*", "").trim(), parts.length > 1 ? parts[1] : "");
        }
        held.forEach((heading, words) -> holdAgainst(heading, sections.getOrDefault(heading, ""), words));
    }

    private void holdAgainst(String heading, String section, List<String> held) {
        check.about("the document, " + heading);
        boolean[] isHeld = new boolean[section.length()];
        for (String words : held) {
            Matcher matcher = Pattern.compile("(?<!\\w)" + Pattern.quote(words) + "(?!\\w)").matcher(section);
            int times = 0;
            while (matcher.find()) {
                Arrays.fill(isHeld, matcher.start(), matcher.end(), true);
                times++;
            }
            check.due("\"" + words + "\" stands there", times > 0 ? 1 : 0, 1);
        }
        if (heading.equals(WITHOUT_PROMISES)) {
            return;
        }
        Matcher boundary = BOUNDARY.matcher(section);
        while (boundary.find()) {
            String around = section.substring(boundary.start(), Math.min(section.length(), boundary.start() + 40));
            check.due("a test of \"" + around.replace('\n', ' ') + "...\"", isHeld[boundary.start()] ? 1 : 0, 1);
        }
    }
}
