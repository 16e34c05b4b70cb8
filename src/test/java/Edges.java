import java.io.IOException;
import java.util.List;

/** Boundary cases: each names its promise (or "Terms") and the document's own words, which must stand there. */
final class Edges {
    private final Doc doc;
    private String section = "";
    private String words = "";
    private int asked = 0;
    private int wrong = 0;
    private int askedHere = 1;
    private int cases = 0;

    Edges() throws IOException {
        doc = new Doc();
    }

    void of(int promise, String sentence) {
        of(Integer.toString(promise), sentence);
    }

    void of(String part, String sentence) {
        closeCase();
        section = part;
        words = sentence;
        askedHere = 0;
        cases++;
        if (!doc.quote(part, sentence)) {
            fail("these words do not stand in the document");
        }
    }

    private void closeCase() {
        if (askedHere == 0) {
            fail("nothing is asked for this sentence");
        }
    }

    private void fail(String what) {
        wrong++;
        System.out.println((section.matches("\\d+") ? "promise " : "") + section + ", \"" + words + "\": " + what);
    }

    void due(String call, int got, int want) {
        asked++;
        askedHere++;
        if (got != want) {
            fail(call + " answered " + got + ", due is " + want);
        }
    }

    void row(String call, int[] got, int... want) {
        due(call + ", how many", got.length, want.length);
        for (int i = 0; i < Math.min(got.length, want.length); i++) {
            due(call + " [" + i + "]", got[i], want[i]);
        }
    }

    /** The answer that is due, and that the object is then as one that was not asked. */
    void refused(String call, Twins.Made made, Twins.Call ask, int want) {
        leaves(call, made, ask, want, Twins.ALL);
    }

    /** In the rich palace. */
    void refused(String call, Twins.Call ask, int want) {
        refused(call, Twins::rich, ask, want);
    }

    void leaves(String call, Twins.Made made, Twins.Call ask, int want, Twins.Look[] looks) {
        for (Twins.Look look : looks) {
            OtherDoor x = made.make();
            due(call, ask.on(x), want);
            List<String> is = look.at(x);
            List<String> was = look.at(made.make());
            for (int i = 0; i < Math.max(is.size(), was.size()); i++) {
                if (i >= is.size() || i >= was.size() || !is.get(i).equals(was.get(i))) {
                    fail(call + " changed what it must leave: " + is.get(i) + ", it was " + was.get(i));
                    break;
                }
            }
        }
    }

    void finish() {
        closeCase();
        for (String gap : doc.unquoted()) {
            wrong++;
            System.out.println("no test quotes " + gap);
        }
        if (doc.promises() != 41) {
            wrong++;
            System.out.println("the document has " + doc.promises() + " promises");
        }
        System.out.println("EdgesTest: " + cases + " sentences, " + asked + " answers, " + wrong + " wrong");
        if (wrong != 0) {
            System.exit(1);
        }
    }
}
