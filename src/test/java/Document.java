import java.io.IOException;
import java.nio.file.Files;
import java.nio.file.Path;
import java.util.BitSet;
import java.util.LinkedHashMap;
import java.util.Map;
import java.util.regex.Matcher;
import java.util.regex.Pattern;

/**
 * The document's sentences, and which of them have a test of their own. A sentence is told in the
 * document's own words; each word there that names a boundary case has to stand in one that is held.
 */
final class Document {
    private static final Path TEXT = Path.of("../shared/DOC.md");
    private static final Pattern HEADING = Pattern.compile("(?:## |==== )(.*)|(REFUSALS) \\(.*");
    private static final Pattern PROMISING = Pattern.compile("[123]\\. .*|REFUSALS|Promise .*");
    private static final Pattern BOUNDARY = Pattern.compile("\\b(?:BAD|OTHER|NOTHING|STUCK|FULL|NONE|"
        + "\\d+ to \\d+|\\d+ on|\\d+ more|at most|at least|at first|at the end|at its end|"
        + "too early|more than|greatest|least|no more|wrapping|[Nn]obody|no LAWS|without LAWS|empty|"
        + "several|if there are|must be|room|no such|can't|may not|alike|lowest bits|in \\d+ TURNS|"
        + "as they (?:do|were)|as there are|isn't|aren't|fewer|behind all|doubled|becomes 1|"
        + "either way|or nothing|nothing changes|nothing is|nothing was|as long as|anywhere|"
        + "one or more|or more|no ROW|no SHELF|another what|the first|the last|or not so)\\b");

    private final Map<String, String> sections = new LinkedHashMap<>();
    private final Map<String, BitSet> held = new LinkedHashMap<>();
    private String heading = "";
    private String sentence = "";
    private int tests;
    private int asked;
    private int wrong;

    Document() throws IOException {
        if (!Files.exists(TEXT)) {
            System.out.println("BoundsTest: no " + TEXT + ": the sentences aren't compared with it");
            return;
        }
        String above = "";
        for (String line : Files.readAllLines(TEXT)) {
            Matcher matcher = HEADING.matcher(line);
            boolean isHeading = matcher.matches();
            if (isHeading) {
                above = matcher.group(1) == null ? matcher.group(2) : matcher.group(1).trim();
            }
            if (!isHeading || matcher.group(2) != null) {
                String words = line.trim().replaceFirst("^`[^`]*`: ", "");
                sections.merge(above, words, (ahead, more) -> (ahead + " " + more).trim());
            }
        }
    }

    /** What is held from now on stands below the heading that begins so. */
    void open(String beginning) {
        heading = beginning;
        if (sections.isEmpty()) {
            return;
        }
        heading = sections.keySet().stream().filter(h -> h.startsWith(beginning)).findFirst()
            .orElse(beginning);
        if (!sections.containsKey(heading)) {
            fail("there is no such heading");
        }
    }

    /** The sentence's own test; should the program throw in it, it doesn't hold. */
    void hold(String words, Runnable test) {
        sentence = words;
        tests++;
        note(words);
        try {
            test.run();
        } catch (RuntimeException thrown) {
            fail("threw " + thrown);
        }
        sentence = "";
    }

    private void note(String words) {
        String text = sections.get(heading);
        if (text == null) {
            return;
        }
        int place = text.indexOf(words);
        if (place < 0 || text.indexOf(words, place + 1) >= 0) {
            fail(place < 0 ? "isn't in the document" : "is twice there: tell more of it");
        } else {
            held.computeIfAbsent(heading, h -> new BitSet()).set(place, place + words.length());
        }
    }

    void is(String call, long got, long want) {
        asked++;
        if (got != want) {
            fail(call + " answered " + got + ", due is " + want);
        }
    }

    private void fail(String why) {
        wrong++;
        System.out.println("BoundsTest: " + heading + ", \"" + sentence + "\": " + why);
    }

    /** Each word of a boundary case has to stand in a sentence that is held. */
    private void everyBoundaryIsHeld() {
        sections.forEach((name, text) -> {
            if (!PROMISING.matcher(name).matches()) {
                return;
            }
            heading = name;
            BitSet places = held.getOrDefault(name, new BitSet());
            Matcher matcher = BOUNDARY.matcher(text);
            while (matcher.find()) {
                if (places.nextClearBit(matcher.start()) < matcher.end()) {
                    int behind = Math.min(text.length(), matcher.end() + 20);
                    fail("no test holds .." + text.substring(Math.max(0, matcher.start() - 20), behind)
                        + "..");
                }
            }
        });
    }

    void end() {
        everyBoundaryIsHeld();
        System.out.println("BoundsTest: " + tests + " sentences, " + asked + " answers, " + wrong
            + " not as due");
        if (wrong != 0) {
            System.exit(1);
        }
    }
}
