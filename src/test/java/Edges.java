import java.io.IOException;
import java.nio.file.Files;
import java.nio.file.Path;
import java.util.List;
import java.util.Set;
import java.util.TreeSet;
import java.util.function.Consumer;
import java.util.function.Supplier;
import java.util.function.ToIntFunction;
import java.util.regex.Matcher;
import java.util.regex.Pattern;

/**
 * What the tests of edges share. Each test quotes the sentence that it holds the class to, with the number of its
 * promise; that the document has these words there is looked up, so that a quote cannot go stale. At the end every
 * promise must have been quoted, and every refusal that it names must have been met.
 */
final class Edges {
    static final int NONE = Due.NONE, UNKNOWN = Due.UNKNOWN, OUTSIDE = Due.OUTSIDE, STATE = Due.STATE, FULL = Due.FULL;
    /** Stands for a promise's number where the sentence is one of the document's terms. */
    static final int TERMS = 0;
    static final int LAST_PROMISE = 27;

    private static final Path DOCUMENT = Path.of("../shared/DOC.md");
    private static final Pattern REFUSAL = Pattern.compile("\\b(UNKNOWN|OUTSIDE|STATE|FULL)\\b");

    private final Due due = new Due();
    private final String[] sections = new String[LAST_PROMISE + 1];
    private final Set<String> met = new TreeSet<>();
    private int promise;
    private String words;

    Edges() throws IOException {
        String document = Files.readString(DOCUMENT).replaceAll("\\s+", " ");
        for (int number = 1; number <= LAST_PROMISE; number++) {
            int from = document.indexOf("## Promise " + number + ":");
            int to = document.indexOf("## ", from + 3);
            sections[number] = document.substring(from, to);
        }
        sections[TERMS] = document.substring(0, document.indexOf("## Promise 1:"));
    }

    /** From here on the tests are of this sentence. */
    void says(int ofPromise, String sentence) {
        promise = ofPromise;
        words = sentence;
        met.add("promise " + promise);
        due.isTrue(name() + " stands in the document", sections[promise].contains(sentence));
    }

    private String name() {
        return (promise == TERMS ? "terms" : "promise " + promise) + ", \"" + words + "\"";
    }

    void is(String call, long got, long want) {
        due.is(name() + ": " + call, got, want);
    }

    /** A call is refused, and an object that it was asked of goes on as its twin does that was not asked. */
    void refused(int refusal, String call, Supplier<BurntLetters> made, ToIntFunction<BurntLetters> asked) {
        BurntLetters x = made.get();
        is(call, asked.applyAsInt(x), refusal);
        met.add("promise " + promise + " " + nameOf(refusal));
        isAlike(call + " changes nothing", x, made.get());
    }

    /** A call that only tells: behind it, too, all is as with the twin. */
    void tells(int answer, String call, Supplier<BurntLetters> made, ToIntFunction<BurntLetters> asked) {
        BurntLetters x = made.get();
        is(call, asked.applyAsInt(x), answer);
        isAlike(call + " changes nothing", x, made.get());
    }

    void isAlike(String what, BurntLetters x, BurntLetters twin) {
        List<String> got = Trace.of(x);
        List<String> want = Trace.of(twin);
        for (int i = 0; i < want.size(); i++) {
            if (!got.get(i).equals(want.get(i))) {
                due.isTrue(name() + ": " + what + ": " + got.get(i) + ", due is " + want.get(i), false);
                return;
            }
        }
        due.isTrue(name() + ": " + what, got.size() == want.size());
    }

    private static String nameOf(int refusal) {
        switch (refusal) {
            case UNKNOWN:
                return "UNKNOWN";
            case OUTSIDE:
                return "OUTSIDE";
            case STATE:
                return "STATE";
            case FULL:
                return "FULL";
            default:
                throw new IllegalArgumentException(refusal + " is no refusal");
        }
    }

    void end(int firstPromise, int lastPromise) {
        for (int number = firstPromise; number <= lastPromise; number++) {
            due.isTrue("promise " + number + " has a test", met.contains("promise " + number));
            Matcher named = REFUSAL.matcher(sections[number]);
            while (named.find()) {
                String refusal = "promise " + number + " " + named.group();
                due.isTrue(refusal + " has a test", met.contains(refusal));
            }
        }
        due.end();
    }

    /** No law, but letters on the page, and ashes. */
    static BurntLetters bare() {
        BurntLetters x = new BurntLetters();
        Due.type(x, "12;");
        x.ashes(NONE);
        x.ashes(0);
        return x;
    }

    /**
     * Something of everything: files 0 (FILE, dead), 1 (DEED under 1, kept once, 0 and 3 point to it), 2 (FLOOD under
     * 5 and 0, points to 0), 3 (RUMOUR under 1 and 2); room 2; two years, ashes, a page, an image that is not as now.
     */
    static BurntLetters busy() {
        BurntLetters x = Due.under("222220;2");
        x.file(0, 0);
        x.file(2, 1);
        x.point(0, 1);
        x.image();
        x.burn(1);
        x.burn(0);
        x.file(4, 5);
        x.copy(2, 0);
        x.point(2, 0);
        x.file(1, 1);
        x.copy(3, 2);
        x.point(3, 1);
        x.ashes(14);
        x.ashes(NONE);
        x.sure(0, 1, 0);
        x.moving(1);
        Due.type(x, "12");
        return x;
    }

    static Supplier<BurntLetters> busyThen(Consumer<BurntLetters> more) {
        return () -> {
            BurntLetters x = busy();
            more.accept(x);
            return x;
        };
    }

    static Supplier<BurntLetters> underLaw(String law, Consumer<BurntLetters> more) {
        return () -> {
            BurntLetters x = Due.under(law);
            more.accept(x);
            return x;
        };
    }
}
