import java.nio.file.Files;
import java.nio.file.Path;
import java.util.ArrayList;
import java.util.List;

/**
 * Asks whether answers are those that are due, under a sentence of the document at a time. The
 * sentence must stand in the document under the heading that is named with it, word by word.
 */
final class Dues {
    private static final Path DOCUMENT = Path.of("../shared/DOC.md");
    private static final int MOST_SHOWN = 50;

    private final String document;
    private final List<String> headings = new ArrayList<>();
    private String sentence = "(no sentence)";
    private int sentences = 0;
    private int asked = 0;
    private int wrong = 0;

    Dues() throws Exception {
        document = oneLine("\n" + Files.readString(DOCUMENT));
    }

    private static String oneLine(String text) {
        return text.replace("\n## ", " ## ").replaceAll("\\s+", " ");
    }

    /** What is asked from here on is what this sentence of the document says. */
    void sentence(String heading, String words) {
        sentence = heading + ", \"" + words + "\"";
        sentences++;
        headings.add(heading);
        if (!partUnder(heading).contains(oneLine(words))) {
            tell("is not in the document");
        }
    }

    private String partUnder(String heading) {
        int named = document.indexOf(" ## " + heading + ":");
        int from = named < 0 ? document.indexOf(" ## " + heading + " ") : named;
        if (from < 0) {
            return "";
        }
        int end = document.indexOf(" ## ", from + 1);
        return end < 0 ? document.substring(from) : document.substring(from, end);
    }

    void due(String call, long got, long want) {
        asked++;
        if (got != want) {
            tell(call + " answered " + got + ", due is " + want);
        }
    }

    void due(String call, boolean got, boolean want) {
        asked++;
        if (got != want) {
            tell(call + " answered " + got + ", due is " + want);
        }
    }

    void yes(String call, boolean got) {
        due(call, got, true);
    }

    /** plan(0), plan(1), .., with nothing behind. */
    void duePlan(String call, PlacingDesk desk, int... want) {
        due(call + ": count(1)", desk.count(1), want.length);
        for (int i = 0; i < want.length; i++) {
            due(call + ": plan(" + i + ")", desk.plan(i), want[i]);
        }
        due(call + ": plan behind its end", desk.plan(want.length), PlacingDesk.NONE);
    }

    /** told(0), told(1), ... */
    void dueTold(String call, PlacingDesk desk, int... want) {
        for (int what = 0; what < want.length; what++) {
            due(call + ": told(" + what + ")", desk.told(what), want[what]);
        }
    }

    /** state(0), state(1), ... */
    void dueStates(String call, PlacingDesk desk, int... want) {
        for (int p = 0; p < want.length; p++) {
            due(call + ": state(" + p + ")", desk.state(p), want[p]);
        }
    }

    void dueNoPlanNoRun(String call, PlacingDesk desk) {
        duePlan(call, desk);
        dueNoRun(call, desk);
    }

    void dueNoRun(String call, PlacingDesk desk) {
        for (int what = 0; what < 8; what++) {
            due(call + ": told(" + what + ")", desk.told(what), PlacingDesk.NONE);
        }
        due(call + ": state(0)", desk.state(0), PlacingDesk.NONE);
    }

    void dueSame(String call, String got, String want) {
        asked++;
        if (!got.equals(want)) {
            int from = 0;
            while (from < got.length() && from < want.length()
                    && got.charAt(from) == want.charAt(from)) {
                from++;
            }
            int shown = Math.max(got.lastIndexOf(' ', Math.max(from - 1, 0)), 0);
            tell(call + ": not as it was, from" + got.substring(shown, Math.min(shown + 40, got.length())));
        }
    }

    boolean hasNamed(String heading) {
        return headings.contains(heading);
    }

    private void tell(String what) {
        wrong++;
        if (wrong <= MOST_SHOWN) {
            System.out.println(sentence + ": " + what);
        }
    }

    /** Ends the program with 1 if an answer was not as due. */
    void end() {
        System.out.println(sentences + " sentences, " + asked + " answers, " + wrong + " not as due");
        if (wrong != 0) {
            System.exit(1);
        }
    }
}
