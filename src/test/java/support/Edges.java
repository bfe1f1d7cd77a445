import java.util.HashSet;
import java.util.Set;
import java.util.function.Predicate;
import java.util.function.Supplier;
import java.util.function.ToIntFunction;

/**
 * Tests of boundary cases. Each begins by naming the promise and the sentence that it tests, in the
 * document's own words, which stand ahead of each wrong answer that is told.
 */
final class Edges {

    private final Document document = new Document();
    private final Due due = new Due();
    private final Set<String> titles = new HashSet<>();
    private String title;
    private boolean isEmpty;

    /** Should one test throw, the others are run nevertheless. */
    void test(Runnable one) {
        title = "a test without a name";
        isEmpty = true;
        try {
            one.run();
            due.no(title + ": asks nothing", isEmpty);
        } catch (RuntimeException e) {
            due.no(title + ": threw " + e, true);
        }
    }

    void of(int promise, String words) {
        begin("Promise " + promise + ":", words, "");
    }

    /** Where several tests are of one sentence, each tells which case of it is its own. */
    void of(int promise, String words, String which) {
        begin("Promise " + promise + ":", words, which);
    }

    void ofTerms(String words) {
        begin("Terms", words, "");
    }

    void ofTerms(String words, String which) {
        begin("Terms", words, which);
    }

    void ofHead(String words) {
        begin("What it is", words, "");
    }

    private void begin(String beginning, String words, String which) {
        String heading = document.heading(beginning);
        title = heading + ", \"" + words + "\"" + (which.isEmpty() ? "" : ", " + which);
        due.yes("the document has: " + title, document.name(heading, words));
        due.yes("only one test is named: " + title, titles.add(title));
    }

    void is(String call, long got, long want) {
        isEmpty = false;
        due.is(title + ": " + call, got, want);
    }

    void yes(String call, boolean got) {
        is(call, got ? 1 : 0, 1);
    }

    /** The call is answered so, and all that can be seen is as it is without the call. */
    void leaves(String call, int want, Supplier<FarHeaps> scene, ToIntFunction<FarHeaps> asked) {
        FarHeaps x = scene.get();
        is(call, asked.applyAsInt(x), want);
        sameAs(call + " leaves all as it was", Sight.of(x), Sight.of(scene.get()));
    }

    void leavesFalse(String call, Supplier<FarHeaps> scene, Predicate<FarHeaps> asked) {
        leaves(call, 0, scene, x -> asked.test(x) ? 1 : 0);
    }

    private void sameAs(String call, String got, String want) {
        yes(call, got.equals(want));
        if (!got.equals(want)) {
            System.out.println("  seen is " + got);
            System.out.println("  due is  " + want);
        }
    }

    /** Numbers just outside, and as far outside as there are. */
    static int[] beside(int least, int most) {
        return new int[] {least - 1, most + 1, Scenes.LEAST, Scenes.MOST};
    }

    void end() {
        for (String passage : document.unnamed()) {
            due.no("no test names: " + passage, true);
        }
        System.out.println(titles.size() + " boundary cases");
        due.end();
    }
}
