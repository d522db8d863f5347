import java.util.ArrayList;
import java.util.List;
import java.util.function.Consumer;
import java.util.function.ToLongFunction;

/** Answers that are due by a sentence of the document: each wrong one is told with its sentence. */
final class Sentences extends Check {
    /** Words of the document, and the part of it (or the promise) in which they stand. */
    record Sentence(String part, String words) {
    }

    private final List<Sentence> quoted = new ArrayList<>();
    private final List<Sentence> untested = new ArrayList<>();
    private String part = "";
    private String words = "";
    private int answers = 1;

    /** What is asked from here on is due by these words. */
    void of(String newPart, String newWords) {
        noteIfUntested();
        part = newPart;
        words = newWords;
        answers = 0;
        quoted.add(new Sentence(part, words));
    }

    private void noteIfUntested() {
        if (answers == 0) {
            untested.add(new Sentence(part, words));
        }
    }

    List<Sentence> quoted() {
        return quoted;
    }

    /** Sentences behind which nothing was asked. */
    List<Sentence> untested() {
        noteIfUntested();
        return untested;
    }

    @Override
    void due(String call, long got, long want) {
        answers++;
        super.due(part + ", \"" + words + "\": " + call, got, want);
    }

    static VeilOfStones made(Consumer<VeilOfStones> build) {
        VeilOfStones x = new VeilOfStones();
        build.accept(x);
        return x;
    }

    /** A call has its answer and has changed nothing, in whatever way the object is looked at. */
    void leaves(String call, Consumer<VeilOfStones> build, ToLongFunction<VeilOfStones> ask, long want) {
        due(call, ask.applyAsLong(made(build)), want);
        same(call, build.andThen(ask::applyAsLong), build, Sight.values());
    }

    /** Two objects that were made otherwise are alike in these ways. */
    void same(String call, Consumer<VeilOfStones> one, Consumer<VeilOfStones> other, Sight... ways) {
        for (Sight way : ways) {
            int[] got = way.of(made(one));
            int[] want = way.of(made(other));
            int at = 0;
            while (at < want.length - 1 && at < got.length - 1 && got[at] == want[at]) {
                at++;
            }
            due(call + ", then " + way + " number " + at, got[at], want[at]);
        }
    }

    /** Two objects can be told apart in this way: without that, same would say nothing. */
    void unlike(String call, Consumer<VeilOfStones> one, Consumer<VeilOfStones> other, Sight way) {
        boolean alike = java.util.Arrays.equals(way.of(made(one)), way.of(made(other)));
        due(call + ", then " + way + " is as ahead of it", alike, false);
    }
}
