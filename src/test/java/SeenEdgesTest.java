import java.io.IOException;
import java.util.function.Supplier;

/** The edges of what is SEEN and known at a TIME: promises 43 to 48, and Terms, part 4, a test for each sentence. */
public final class SeenEdgesTest {
    private static final Check CHECK = new Check("SeenEdgesTest");
    private static final int[] FAR_OFF = {Integer.MIN_VALUE, Integer.MIN_VALUE + 1, -2, -1, 1001, Integer.MAX_VALUE};
    private static final int END = 100000;
    private static final String FIVE = "kind a;kind b;kind c;kind d;kind e;";
    /** Not known is how much q has of a: there are 4 + h of a and 3 of b at first, and 3 of a go in each BOILING. */
    private static final String WORKS = "kind a;kind b;person p has a 4;person q has b 3 a 2;boils a b into b 3;rises 1;scum 100;";

    private final Edges edges;

    private SeenEdgesTest() throws IOException {
        edges = new Edges(CHECK);
    }

    public static void main(String[] args) throws IOException {
        SeenEdgesTest test = new SeenEdgesTest();
        test.seen();
        test.times();
        test.known();
        test.edges.covers(43, 48);
        CHECK.close();
    }

    private void terms(String sentence, Runnable test) {
        edges.edge("Terms", sentence, test);
    }

    private static void known(SoapWorks x, int k, int many, int least, int greatest) {
        CHECK.due("fits(" + k + ")", x.fits(k), many);
        CHECK.due("sure(0, " + k + ")", x.sure(0, k), least);
        CHECK.due("sure(1, " + k + ")", x.sure(1, k), greatest);
    }

    private static void ask(SoapWorks x, int boilings, int k, int kind, int left) {
        CHECK.due("ask(" + boilings + ", 0, " + k + ")", x.ask(boilings, 0, k), kind);
        CHECK.due("ask(" + boilings + ", 1, " + k + ")", x.ask(boilings, 1, k), left);
    }

    /** At TIME 7, with two SEEN, one of them UNTOLD, and an ACT that can be redone. */
    private static SoapWorks used() {
        SoapWorks x = CHECK.of(WORKS);
        x.later(3);
        x.seen(0, 0, 9, true);
        x.seen(1, 0, 20, false);
        x.later(4);
        x.untell(1);
        x.confess(0);
        x.confess(1);
        x.undo();
        x.order(0);
        return x;
    }

    // ---- promises 43 and 44

    private void seen() {
        terms("SEEN, 30 at most, is TOLD at a TIME (0 at first, goes on), UNTOLD at a later one or the same", SeenEdgesTest::thirtyAtMost);
        terms("of the WORKS as told, in which all tell at first (nothing else is done; it is not out in the street)", SeenEdgesTest::asTold);
        terms("but for how much the last of the PEOPLE has of the last KIND told of him, which is not known", SeenEdgesTest::notKnown);
        terms("that behind so many BOILINGS (0 .. 12) there was so much at least of a KIND, or was not.", SeenEdgesTest::soMuchAtLeast);
        String seen = "Promise 43: seen";
        edges.edge(seen, "A SEEN (BOILINGS 0 .. 12, so much 0 .. 999): its number", SeenEdgesTest::itsNumber);
        edges.edge(seen, "NONE, doing nothing, if one can't be, there are 30, or no PEOPLE.", this::seenIsRefused);
        edges.edge("Promise 44: untell", "It is UNTOLD: true; false if it is so already, or there is none such.", this::untold);
    }

    private static void thirtyAtMost() {
        SoapWorks x = CHECK.of(WORKS);
        CHECK.due("about(12) at first", x.about(12), 0);
        for (int i = 0; i < 30; i++) CHECK.due("seen " + i, x.seen(0, 0, i, true), i);
        CHECK.due("seen 30", x.seen(0, 0, 30, true), -1);
        CHECK.due("about(11)", x.about(11), 30);
        known(x, 0, 6, 25, 30);
        // At the same TIME, and at a later one; what is UNTOLD is still one of the thirty.
        CHECK.due("untell(29)", x.untell(29), true);
        known(x, 0, 7, 24, 30);
        CHECK.due("seen behind untell", x.seen(0, 0, 30, true), -1);
        x.later(1);
        CHECK.due("untell(28)", x.untell(28), true);
        known(x, 0, 7, 24, 30);
        known(x, 1, 8, 23, 30);
        CHECK.due("seen later", x.seen(0, 0, 30, true), -1);
        // All of them may be UNTOLD.
        for (int i = 0; i < 28; i++) CHECK.due("untell(" + i + ")", x.untell(i), true);
        known(x, 1, 31, 0, 30);
        known(x, 0, 7, 24, 30);
    }

    private static void asTold() {
        SoapWorks x = CHECK.of("kind a;kind b;person p has a 4;person q has a 2;boils a a into b 1;basin m wants a 1;rises 1;scum 100;");
        x.seen(2, 0, 5, true);
        // 4 + h - 4 at least 5, though it is out in the street, there is scum, and whatever is done.
        known(x, 0, 26, 5, 30);
        x.confess(0);
        known(x, 0, 26, 5, 30);
        x.wash(0);
        x.boil();
        x.boil();
        x.confess(1);
        x.sweep(0);
        x.undo();
        x.undo();
        known(x, 0, 26, 5, 30);
        x.image(0);
        x.back(0);
        x.seen(0, 0, 5, true);
        known(x, 0, 26, 5, 30);
        // All tell, seven with all they have.
        StringBuilder seven = new StringBuilder(FIVE);
        for (int p = 0; p < 7; p++) seven.append("person ").append((char) ('p' + p)).append(" has a 20 b 20 c 20 d 20 e 20;");
        SoapWorks all = CHECK.of(seven.toString());
        all.seen(0, 4, 150, true);
        known(all, 0, 1, 30, 30);
        all.seen(0, 0, 140, true);
        all.seen(0, 0, 141, false);
        known(all, 0, 1, 30, 30);
        all.seen(0, 4, 151, true);
        known(all, 0, 0, -1, -1);
    }

    private static void notKnown() {
        // Whatever number the KIND has; his others, and what the others have, are known.
        for (int last = 0; last < 5; last++) {
            StringBuilder text = new StringBuilder(FIVE + "person p has a 7 b 7 c 7 d 7 e 7;person q has ");
            for (int kind = 4; kind >= 0; kind--) if (kind != last) text.append((char) ('a' + kind)).append(' ').append(kind + 1).append(' ');
            SoapWorks x = CHECK.of(text.append((char) ('a' + last)).append(" 20;basin y wants a 1 b 2;boils a b into c 1;draw 3;").toString());
            for (int kind = 0; kind < 5; kind++) {
                if (kind == last) continue;
                x.seen(0, kind, 8 + kind, true);
                x.seen(0, kind, 9 + kind, false);
            }
            known(x, 0, 31, 0, 30);
            x.seen(0, last, 17, true);
            x.seen(0, last, 20, false);
            known(x, 0, 3, 10, 12);
        }
        // It may be as little as 0 and as much as 30, whatever is told of it.
        SoapWorks none = CHECK.of("kind a;person p has a 20;");
        none.seen(0, 0, 1, false);
        known(none, 0, 1, 0, 0);
        SoapWorks most = CHECK.of("kind a;person p has a 1;");
        most.seen(0, 0, 30, true);
        known(most, 0, 1, 30, 30);
        // The last of the PEOPLE, whatever is told behind him.
        SoapWorks lone = CHECK.of("kind a;person p has a 20;kind b;person q has b 1;basin m wants a 3;boils a a into a 1;");
        lone.seen(0, 0, 20, true);
        lone.seen(0, 0, 21, false);
        lone.seen(0, 1, 3, false);
        known(lone, 0, 3, 0, 2);
    }

    private static void soMuchAtLeast() {
        for (int n = 0; n <= 12; n++) {
            int least = Math.max(0, 3 * n + 1 - 4);
            boolean can = least <= 30;
            SoapWorks was = CHECK.of(WORKS);
            was.seen(n, 0, 1, true);
            known(was, 0, can ? 31 - least : 0, can ? least : -1, can ? 30 : -1);
            SoapWorks wasNot = CHECK.of(WORKS);
            wasNot.seen(n, 0, 1, false);
            int below = Math.min(31, least);
            known(wasNot, 0, below, below > 0 ? 0 : -1, below - 1);
        }
        SoapWorks x = CHECK.of(WORKS);
        x.seen(0, 0, 10, true);
        known(x, 0, 25, 6, 30);
        x.seen(0, 0, 11, false);
        known(x, 0, 1, 6, 6);
        // 0 at least is always so.
        SoapWorks always = CHECK.of(WORKS);
        always.seen(12, 0, 0, true);
        known(always, 0, 31, 0, 30);
        always.seen(12, 0, 0, false);
        known(always, 0, 0, -1, -1);
    }

    private static void itsNumber() {
        SoapWorks x = CHECK.of(WORKS);
        CHECK.due("seen(0, 0, 0, true)", x.seen(0, 0, 0, true), 0);
        CHECK.due("seen(12, 1, 999, false)", x.seen(12, 1, 999, false), 1);
        CHECK.due("seen(12, 1, 0, true)", x.seen(12, 1, 0, true), 2);
        CHECK.due("untell(1)", x.untell(1), true);
        CHECK.due("seen: no number comes again", x.seen(0, 0, 999, false), 3);
        CHECK.due("the same again is another one", x.seen(0, 0, 999, false), 4);
        known(x, 0, 31, 0, 30);
        CHECK.due("seen(0, 0, 999, true)", x.seen(0, 0, 999, true), 5);
        known(x, 0, 0, -1, -1);
    }

    private void seenIsRefused() {
        edges.refused(SeenEdgesTest::used, "seen(13, 0, 1, true)", x -> x.seen(13, 0, 1, true));
        edges.refused(SeenEdgesTest::used, "seen(0, 2, 1, true)", x -> x.seen(0, 2, 1, true));
        edges.refused(SeenEdgesTest::used, "seen(0, 0, 1000, true)", x -> x.seen(0, 0, 1000, true));
        edges.refused(SeenEdgesTest::used, "seen(0, 0, -1, false)", x -> x.seen(0, 0, -1, false));
        for (int off : FAR_OFF) {
            edges.refused(SeenEdgesTest::used, "seen(" + off + ", 0, 1, true)", x -> x.seen(off, 0, 1, true));
            edges.refused(SeenEdgesTest::used, "seen(0, " + off + ", 1, true)", x -> x.seen(0, off, 1, true));
            edges.refused(SeenEdgesTest::used, "seen(0, 0, " + off + ", true)", x -> x.seen(0, 0, off, true));
        }
        Supplier<SoapWorks> full = () -> {
            SoapWorks x = CHECK.of(WORKS);
            for (int i = 0; i < 30; i++) x.seen(0, 0, i, true);
            return x;
        };
        edges.refused(full, "seen(0, 0, 30, true) behind thirty", x -> x.seen(0, 0, 30, true));
        edges.refused(() -> CHECK.of("kind a;basin b wants a 1;"), "seen(0, 0, 0, true) without PEOPLE", x -> x.seen(0, 0, 0, true));
        edges.refused(SoapWorks::new, "seen(0, 0, 0, true) of a new one", x -> x.seen(0, 0, 0, true));
        SoapWorks five = CHECK.of(FIVE + "person p has e 1;");
        CHECK.due("seen(0, 4, 1, true)", five.seen(0, 4, 1, true), 0);
        CHECK.due("seen(0, 5, 1, true)", five.seen(0, 5, 1, true), -1);
    }

    private void untold() {
        edges.doesNothing(SeenEdgesTest::used, "untell(1) again", x -> x.untell(1) ? 1 : 0, 0);
        edges.doesNothing(SeenEdgesTest::used, "untell(2)", x -> x.untell(2) ? 1 : 0, 0);
        for (int off : FAR_OFF) edges.doesNothing(SeenEdgesTest::used, "untell(" + off + ")", x -> x.untell(off) ? 1 : 0, 0);
        edges.doesNothing(SoapWorks::new, "untell(0) of a new one", x -> x.untell(0) ? 1 : 0, 0);
        SoapWorks x = used();
        CHECK.due("untell(0)", x.untell(0), true);
        CHECK.due("untell(0) again", x.untell(0), false);
        x.later(5);
        CHECK.due("untell(0) later", x.untell(0), false);
        known(x, 6, 14, 5, 18);
        known(x, 7, 31, 0, 30);
        // At the TIME it was TOLD at, be it 0.
        SoapWorks early = CHECK.of(WORKS);
        early.seen(0, 0, 9, true);
        CHECK.due("untell(0) at once", early.untell(0), true);
        CHECK.due("untell(0) again", early.untell(0), false);
        known(early, 0, 31, 0, 30);
    }

    // ---- promise 45, and what counts at a TIME

    private void times() {
        edges.edge("Promise 45: later", "So much later (0 .. 1000): the TIME", SeenEdgesTest::soMuchLater);
        edges.edge("Promise 45: later", "NONE, doing nothing, for another number, or if it would be above 100,000.", this::laterIsRefused);
        terms("As known at k that counts that was TOLD at k or before, not UNTOLD at k or before.", SeenEdgesTest::whatCounts);
    }

    private static void soMuchLater() {
        SoapWorks x = new SoapWorks();
        int[][] due = {{0, 0}, {1, 1}, {0, 1}, {999, 1000}, {1000, 2000}};
        for (int[] row : due) CHECK.due("later(" + row[0] + ")", x.later(row[0]), row[1]);
        CHECK.due("about(12)", x.about(12), 2000);
        Check.tell(x, WORKS);
        CHECK.due("about(12): the TIME stays", x.about(12), 2000);
        CHECK.due("later(1)", x.later(1), 2001);
    }

    /** At 99,999. */
    private static SoapWorks late() {
        SoapWorks x = CHECK.of(WORKS);
        for (int i = 0; i < 99; i++) x.later(1000);
        x.later(999);
        return x;
    }

    private void laterIsRefused() {
        for (int off : FAR_OFF) edges.refused(SeenEdgesTest::used, "later(" + off + ")", x -> x.later(off));
        CHECK.due("about(12)", late().about(12), END - 1);
        edges.refused(SeenEdgesTest::late, "later(2) at 99,999", x -> x.later(2));
        edges.refused(SeenEdgesTest::late, "later(1000) at 99,999", x -> x.later(1000));
        SoapWorks x = late();
        CHECK.due("later(1) at 99,999", x.later(1), END);
        CHECK.due("later(1) at 100,000", x.later(1), -1);
        CHECK.due("later(1000) at 100,000", x.later(1000), -1);
        CHECK.due("later(0) at 100,000", x.later(0), END);
        x.seen(0, 0, 9, true);
        known(x, END - 1, 31, 0, 30);
        known(x, END, 26, 5, 30);
        CHECK.due("untell(0) at 100,000", x.untell(0), true);
        known(x, END, 31, 0, 30);
    }

    private static void whatCounts() {
        // TOLD at 2, UNTOLD at 5; TOLD at 3 and kept; TOLD and UNTOLD at 6.
        SoapWorks x = CHECK.of(WORKS);
        x.later(2);
        x.seen(0, 0, 10, true);
        x.later(1);
        x.seen(0, 0, 20, false);
        x.later(2);
        x.untell(0);
        x.later(1);
        x.seen(0, 0, 8, true);
        x.untell(2);
        int[][] due = {{Integer.MIN_VALUE, 31, 0, 30}, {-1, 31, 0, 30}, {0, 31, 0, 30}, {1, 31, 0, 30}, {2, 25, 6, 30}, {3, 10, 6, 15},
            {4, 10, 6, 15}, {5, 16, 0, 15}, {6, 16, 0, 15}, {7, 16, 0, 15}, {END, 16, 0, 15}, {Integer.MAX_VALUE, 16, 0, 15}};
        for (int[] row : due) known(x, row[0], row[1], row[2], row[3]);
        // What is UNTOLD later leaves the times between as they were known.
        x.later(3);
        x.untell(1);
        for (int[] row : due) if (row[0] < 9) known(x, row[0], row[1], row[2], row[3]);
        known(x, 8, 16, 0, 15);
        known(x, 9, 31, 0, 30);
        // Those that count at a TIME count in ASK, too.
        ask(x, 12, 1, 0, 31);
        ask(x, 12, 3, 0, 10);
        ask(x, 5, 3, 0, 6);
        // At TIME 0 what was TOLD at 0 counts.
        SoapWorks first = CHECK.of(WORKS);
        first.seen(0, 0, 10, true);
        known(first, -1, 31, 0, 30);
        known(first, 0, 25, 6, 30);
    }

    // ---- promises 46 to 48

    private void known() {
        terms("FITS: so much (0 .. 30) by which all that counts is so.", SeenEdgesTest::allThatCounts);
        edges.edge("Promise 46: fits", "FITS: how many (0 without PEOPLE).", SeenEdgesTest::withoutPeople);
        edges.edge("Promise 47: sure", "The least of FITS (what 0), the greatest (1); NONE if none FITS, or for another what.", this::surely);
        terms("ASK for a number of BOILINGS (0 .. 12): the KIND of which to know how much there was then would leave the fewest of these at the most;"
                + " of like ones the first.", SeenEdgesTest::theFewestLeft);
        edges.edge("Promise 48: ask", "NONE if none FITS, or one can't be.", this::askIsRefused);
    }

    private static void allThatCounts() {
        SoapWorks x = CHECK.of(WORKS);
        known(x, 0, 31, 0, 30);
        // Each of two alone leaves some, both together those in between, three none.
        x.seen(1, 0, 10, true);
        known(x, 0, 22, 9, 30);
        x.seen(2, 0, 12, false);
        known(x, 0, 5, 9, 13);
        x.seen(0, 0, 14, false);
        known(x, 0, 1, 9, 9);
        x.seen(0, 0, 13, false);
        known(x, 0, 0, -1, -1);
        x.untell(3);
        known(x, 0, 1, 9, 9);
        // With a gap: by what is odd. Of h, half becomes b; what is left of a is 1 or none.
        SoapWorks odd = CHECK.of("kind a;kind b;person p has a 1;boils a a into b 9;boils a a into b 9;");
        odd.seen(1, 0, 1, true);
        known(odd, 0, 15, 1, 29);
        odd.untell(0);
        odd.seen(1, 0, 1, false);
        known(odd, 0, 16, 0, 30);
    }

    private static void withoutPeople() {
        CHECK.due("fits(0) of a new one", new SoapWorks().fits(0), 0);
        SoapWorks x = CHECK.of("kind a;basin b wants a 1;boils a a into a 1;");
        for (int k : new int[] {0, -1, END, Integer.MIN_VALUE, Integer.MAX_VALUE}) {
            known(x, k, 0, -1, -1);
            ask(x, 0, k, -1, -1);
        }
        Check.tell(x, WORKS);
        known(x, 0, 31, 0, 30);
        Check.tell(x, "kind a;");
        known(x, 0, 0, -1, -1);
        // That of another WORKS is not that of this.
        String[] texts = {"kind a;person p has a 1;", WORKS, "kind a;person p has a 20;person q has a 1;", "kind a;person p has a 1;", WORKS};
        int[] many = {24, 28, 31, 24, 28};
        for (int i = 0; i < texts.length; i++) {
            Check.tell(x, texts[i]);
            x.seen(0, 0, 7, true);
            CHECK.due("fits(0) of '" + texts[i] + "'", x.fits(0), many[i]);
        }
    }

    private void surely() {
        SoapWorks x = CHECK.of(WORKS);
        known(x, 0, 31, 0, 30);
        x.seen(0, 0, 5, true);
        known(x, 0, 30, 1, 30);
        x.seen(0, 0, 34, false);
        known(x, 0, 29, 1, 29);
        edges.refused(SeenEdgesTest::used, "sure(2, 3)", y -> y.sure(2, 3));
        for (int off : FAR_OFF) edges.refused(SeenEdgesTest::used, "sure(" + off + ", 3)", y -> y.sure(off, 3));
        Supplier<SoapWorks> none = () -> {
            SoapWorks y = used();
            y.seen(0, 1, 4, true);
            return y;
        };
        CHECK.due("fits(7)", none.get().fits(7), 0);
        edges.refused(none, "sure(0, 7) of none", y -> y.sure(0, 7));
        edges.refused(none, "sure(1, 7) of none", y -> y.sure(1, 7));
        CHECK.due("sure(1, 6): it was not known then", none.get().sure(1, 6), 18);
    }

    private static void theFewestLeft() {
        // a: h itself; b: the same, always.
        SoapWorks x = CHECK.of("kind b;kind a;person p has b 2;person q has a 1;");
        for (int n = 0; n <= 12; n++) ask(x, n, 0, 1, 1);
        // Of like ones the first: all are the same, or all tell it.
        SoapWorks like = CHECK.of("kind a;kind b;kind c;person p has a 5;person q has c 1;");
        like.seen(0, 2, 1, false);
        ask(like, 0, 0, 0, 1);
        SoapWorks two = CHECK.of("kind c;kind a;kind b;person p has a 1;boils a a into a 9;boils a a into b 9;");
        ask(two, 0, 0, 1, 1);
        // Of h, half becomes b, and 9 of b at most.
        SoapWorks half = CHECK.of("kind b;kind a;person p has a 1;boils a a into b 9;");
        ask(half, 0, 0, 1, 1);
        // b: 9 of 18 and more, which are 13; a: 0 of ten, 1 of ten, one of each from 20 on.
        ask(half, 1, 0, 1, 10);
        half.seen(0, 1, 18, false);
        // b: two of each; a: nine of each.
        ask(half, 1, 0, 0, 2);
        half.seen(1, 1, 1, true);
        // The odd ones up to 17: b tells all of them apart, a none.
        ask(half, 1, 0, 0, 1);
        ask(half, 0, 0, 1, 1);
        ask(half, 12, 0, 0, 1);
        // Five KINDS, in the last BOILING, and only the last KIND tells.
        SoapWorks five = CHECK.of(FIVE + "person p has e 1;");
        for (int n = 0; n <= 12; n++) ask(five, n, 0, 4, 1);
        SoapWorks none = CHECK.of(FIVE + "person p has e 3 a 1;boils a e into a 9;boils a a into e 9;boils a a into d 9;");
        for (int n = 0; n <= 12; n++) CHECK.due("ask(" + n + ", 0, 0) is a KIND", none.ask(n, 0, 0) >= 0 && none.ask(n, 0, 0) < 5, true);
        // One is left, be it the least or the greatest that can be.
        for (int had = 0; had <= 30; had += 30) {
            SoapWorks one = CHECK.of(WORKS);
            one.seen(0, 0, 4 + had, true);
            one.seen(0, 0, 5 + had, false);
            known(one, 0, 1, had, had);
            for (int n = 0; n <= 12; n++) ask(one, n, 0, 0, 1);
        }
        // Nothing tells anything: the first, and all are left.
        SoapWorks same = CHECK.of(WORKS);
        same.seen(0, 0, 30, false);
        ask(same, 12, 0, 0, 26);
    }

    private void askIsRefused() {
        edges.refused(SeenEdgesTest::used, "ask(13, 0, 3)", x -> x.ask(13, 0, 3));
        edges.refused(SeenEdgesTest::used, "ask(13, 1, 3)", x -> x.ask(13, 1, 3));
        edges.refused(SeenEdgesTest::used, "ask(0, 2, 3)", x -> x.ask(0, 2, 3));
        for (int off : FAR_OFF) {
            edges.refused(SeenEdgesTest::used, "ask(" + off + ", 0, 3)", x -> x.ask(off, 0, 3));
            edges.refused(SeenEdgesTest::used, "ask(0, " + off + ", 3)", x -> x.ask(0, off, 3));
        }
        ask(used(), 12, 3, 0, 14);
        SoapWorks x = used();
        x.seen(0, 1, 4, true);
        ask(x, 0, 7, -1, -1);
        ask(x, 0, 6, 0, 1);
        ask(new SoapWorks(), 0, 0, -1, -1);
    }
}
