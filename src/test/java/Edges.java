import java.io.IOException;
import java.nio.file.Files;
import java.nio.file.Path;
import java.util.ArrayList;
import java.util.List;
import java.util.Map;
import java.util.TreeMap;
import java.util.TreeSet;
import java.util.Set;
import java.util.function.Supplier;
import java.util.function.ToIntFunction;

/**
 * The document's sentences that name a boundary, each with a test of its own. A sentence is quoted, and must stand in
 * ../shared/DOC.md under its heading, so that a test can't outlive the words that it holds. Run from the project's root.
 */
final class Edges {
    private static final Path DOCUMENT = Path.of("../shared/DOC.md");
    /** A TIME that none can be above: all that was ever TOLD and UNTOLD is known then. */
    private static final int AT_THE_END = 100000;

    private final Check check;
    private final Map<String, String> sections = new TreeMap<>();
    private final Set<String> tested = new TreeSet<>();

    Edges(Check check) throws IOException {
        this.check = check;
        for (String section : Files.readString(DOCUMENT).split("\n## ")) {
            int head = section.indexOf('\n');
            if (head > 0) sections.put(section.substring(0, head).trim(), folded(section.substring(head)));
        }
    }

    private static String folded(String text) {
        return text.replaceAll("\\s+", " ");
    }

    void edge(String heading, String sentence, Runnable test) {
        check.within(heading + ", '" + sentence + "'");
        check.due("the sentence stands there", sections.getOrDefault(heading, "").contains(folded(sentence)), true);
        tested.add(heading);
        test.run();
        check.within("");
    }

    /** Every promise from this number to that one must have had an edge. */
    void covers(int from, int to) {
        for (String heading : sections.keySet()) {
            if (!heading.startsWith("Promise ")) continue;
            int number = Integer.parseInt(heading.substring(8, heading.indexOf(':')));
            if (number >= from && number <= to) check.due("an edge of " + heading, tested.contains(heading), true);
        }
    }

    /** All of an object that can be asked for without changing it. */
    private static List<Integer> all(SoapWorks x) {
        List<Integer> all = new ArrayList<>();
        for (int what = 0; what <= 16; what++) all.add(x.about(what));
        for (int kind = 0; kind < 5; kind++) all.add(x.vat(kind));
        for (int i = 0; i < 7; i++) all.add(x.lies(i));
        for (int k : new int[] {0, x.about(12), AT_THE_END}) {
            all.add(x.fits(k));
            all.add(x.sure(0, k));
        }
        all.add(x.fault(0));
        all.add(x.fault(1));
        return all;
    }

    /** That two objects are in one state, with what can be undone and redone, the BOXES, the TAPE and the WORKS. */
    private void alike(SoapWorks one, SoapWorks other) {
        alikeNow("now", one, other);
        for (int i = 0; i < 3; i++) check.due("redo() " + i, one.redo(), other.redo());
        alikeNow("behind redo()", one, other);
        for (int i = 0; i < 5; i++) check.due("undo() " + i, one.undo(), other.undo());
        alikeNow("behind undo()", one, other);
        for (int box = 0; box < 3; box++) {
            check.due("back(" + box + ")", one.back(box), other.back(box));
            alikeNow("behind back(" + box + ")", one, other);
        }
        check.due("works() of what is on the TAPE", one.works(), other.works());
        alikeNow("behind works()", one, other);
    }

    private void alikeNow(String when, SoapWorks one, SoapWorks other) {
        List<Integer> got = all(one);
        List<Integer> want = all(other);
        for (int i = 0; i < want.size(); i++) check.due("part " + i + " of all " + when, got.get(i), want.get(i));
    }

    /** A call that answers so and does nothing: beside its twin, to which the call was not made. */
    void doesNothing(Supplier<SoapWorks> made, String call, ToIntFunction<SoapWorks> calling, int want) {
        SoapWorks x = made.get();
        check.due(call, calling.applyAsInt(x), want);
        alike(x, made.get());
    }

    void refused(Supplier<SoapWorks> made, String call, ToIntFunction<SoapWorks> calling) {
        doesNothing(made, call, calling, -1);
    }
}
