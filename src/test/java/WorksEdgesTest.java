import java.io.IOException;
import java.util.function.Supplier;

/** The edges of the VAT, of ACTS, and of images: promises 6 to 15 and 49 to 51, and Terms, part 2, a test for each sentence. */
public final class WorksEdgesTest {
    private static final Check CHECK = new Check("WorksEdgesTest");
    private static final int[] FAR_OFF = {Integer.MIN_VALUE, Integer.MIN_VALUE + 1, -2, -1, 99, Integer.MAX_VALUE};
    private static final String FIVE = "kind a;kind b;kind c;kind d;kind e;";
    /** The least int that there is. */
    private static final String MIN = "(4096*4096*128)";
    private static final String USED = "kind a;kind b;kind c;person p has a 9 b 2;person q has b 5;person r has c 3 a 1;"
            + "boils a b into c 2;boils c c into a 1;basin x wants a 2;basin y wants c 9;basin z wants a 6;"
            + "rises all>30;scum 10;draw 42;";

    private final Edges edges;

    private WorksEdgesTest() throws IOException {
        edges = new Edges(CHECK);
    }

    public static void main(String[] args) throws IOException {
        WorksEdgesTest test = new WorksEdgesTest();
        test.asked();
        test.done();
        test.undone();
        test.kept();
        test.theVat();
        test.boilings();
        test.risen();
        test.inEarnest();
        test.acts();
        test.edges.covers(6, 15);
        test.edges.covers(49, 51);
        CHECK.close();
    }

    private void terms(String sentence, Runnable test) {
        edges.edge("Terms", sentence, test);
    }

    private static SoapWorks told(String text, int... who) {
        SoapWorks x = CHECK.of(text);
        for (int person : who) x.confess(person);
        return x;
    }

    /** p has told, x is eased, day 1; q has told and this was taken back; something lies there, is seen and kept. */
    private static SoapWorks used() {
        SoapWorks x = told(USED, 0);
        x.boil();
        x.image(1);
        x.wash(0);
        x.later(4);
        x.seen(0, 0, 12, true);
        x.order(2);
        x.confess(1);
        x.undo();
        x.feed(0x6b696e64, 0x20613b20, 0x20202020, 0x20202020, 0x20202020);
        return x;
    }

    // ---- promises 6 to 9

    private void asked() {
        edges.edge("Promise 6: vat", "NONE if there is none such.", WorksEdgesTest::noSuchVat);
        edges.edge("Promise 7: mind", "(told or not)", WorksEdgesTest::mindsStay);
        edges.edge("Promise 7: mind", "NONE if one can't be.", WorksEdgesTest::noSuchMind);
        edges.edge("Promise 8: wants", "NONE if one can't be.", WorksEdgesTest::noSuchWant);
        edges.edge("Promise 9: rule", "NONE if there is none such, or for another what.", WorksEdgesTest::noSuchRule);
    }

    private static void noSuchVat() {
        CHECK.due("vat(0) without KINDS", new SoapWorks().vat(0), -1);
        String text = "";
        for (int kinds = 0; kinds <= 5; kinds++) {
            SoapWorks x = CHECK.of(text);
            for (int kind = 0; kind < kinds; kind++) CHECK.due("vat(" + kind + ") of " + kinds, x.vat(kind), 0);
            for (int kind = kinds; kind < 7; kind++) CHECK.due("vat(" + kind + ") of " + kinds, x.vat(kind), -1);
            for (int off : FAR_OFF) CHECK.due("vat(" + off + ") of " + kinds, x.vat(off), -1);
            text += "kind " + (char) ('a' + kinds) + ";";
        }
    }

    private static void mindsStay() {
        SoapWorks x = CHECK.of("kind a;kind b;person p has b 20;person q has a 1;");
        for (int i = 0; i < 3; i++) {
            CHECK.due("mind(0, 0)", x.mind(0, 0), 0);
            CHECK.due("mind(0, 1)", x.mind(0, 1), 20);
            CHECK.due("mind(1, 0)", x.mind(1, 0), 1);
            if (i == 0) x.confess(0);
            if (i == 1) x.sweep(1);
        }
    }

    private static void noSuchMind() {
        SoapWorks x = CHECK.of("kind a;kind b;person p has b 20;person q has a 1;");
        CHECK.due("mind(2, 0)", x.mind(2, 0), -1);
        CHECK.due("mind(0, 2)", x.mind(0, 2), -1);
        CHECK.due("mind(1, 1)", x.mind(1, 1), 0);
        for (int off : FAR_OFF) {
            CHECK.due("mind(" + off + ", 0)", x.mind(off, 0), -1);
            CHECK.due("mind(0, " + off + ")", x.mind(0, off), -1);
            CHECK.due("mind(" + off + ", " + off + ")", x.mind(off, off), -1);
        }
        CHECK.due("mind(0, 0) without PEOPLE", CHECK.of("kind a;").mind(0, 0), -1);
        StringBuilder text = new StringBuilder(FIVE);
        for (int p = 0; p < 7; p++) text.append("person ").append((char) ('p' + p)).append(" has e ").append(14 + p).append(';');
        SoapWorks most = CHECK.of(text.toString());
        for (int p = 0; p < 7; p++) CHECK.due("mind(" + p + ", 4)", most.mind(p, 4), 14 + p);
        CHECK.due("mind(6, 5)", most.mind(6, 5), -1);
        CHECK.due("mind(7, 4)", most.mind(7, 4), -1);
    }

    private static void noSuchWant() {
        SoapWorks x = CHECK.of("kind a;kind b;basin x wants b 20;basin y wants a 1;");
        CHECK.due("wants(0, 0)", x.wants(0, 0), 0);
        CHECK.due("wants(0, 1)", x.wants(0, 1), 20);
        CHECK.due("wants(1, 0)", x.wants(1, 0), 1);
        CHECK.due("wants(2, 0)", x.wants(2, 0), -1);
        CHECK.due("wants(0, 2)", x.wants(0, 2), -1);
        for (int off : FAR_OFF) {
            CHECK.due("wants(" + off + ", 0)", x.wants(off, 0), -1);
            CHECK.due("wants(0, " + off + ")", x.wants(0, off), -1);
            CHECK.due("wants(" + off + ", " + off + ")", x.wants(off, off), -1);
        }
        CHECK.due("wants(0, 0) without BASINS", CHECK.of("kind a;").wants(0, 0), -1);
        SoapWorks most = CHECK.of(FIVE + "basin w wants e 1;basin x wants e 2;basin y wants e 3;basin z wants e 4;");
        for (int b = 0; b < 4; b++) CHECK.due("wants(" + b + ", 4)", most.wants(b, 4), b + 1);
        CHECK.due("wants(4, 4)", most.wants(4, 4), -1);
        CHECK.due("wants(3, 5)", most.wants(3, 5), -1);
    }

    private static void noSuchRule() {
        CHECK.due("rule(0, 0) without RULES", CHECK.of("kind a;").rule(0, 0), -1);
        StringBuilder text = new StringBuilder(FIVE);
        for (int r = 0; r < 6; r++) {
            SoapWorks before = CHECK.of(text.toString());
            for (int what = 0; what < 4; what++) CHECK.due("rule(" + r + ", " + what + ") before", before.rule(r, what), -1);
            text.append("boils e d into c ").append(r + 4).append(';');
            SoapWorks x = CHECK.of(text.toString());
            int[] due = {4, 3, 2, r + 4, -1, -1};
            for (int what = 0; what < 6; what++) CHECK.due("rule(" + r + ", " + what + ")", x.rule(r, what), due[what]);
        }
        SoapWorks x = CHECK.of(text.toString());
        CHECK.due("rule(6, 0)", x.rule(6, 0), -1);
        for (int off : FAR_OFF) {
            CHECK.due("rule(" + off + ", 0)", x.rule(off, 0), -1);
            CHECK.due("rule(0, " + off + ")", x.rule(0, off), -1);
            CHECK.due("rule(" + off + ", " + off + ")", x.rule(off, off), -1);
        }
    }

    // ---- promises 10 to 13

    private void done() {
        edges.edge("Promise 10: confess", "how much is in the VAT then, of all KINDS together", WorksEdgesTest::allTogether);
        edges.edge("Promise 10: confess", "NONE, doing nothing, if he has, or there is none such.", this::confessIsRefused);
        edges.edge("Promise 11: boil", "1 if it is out in the street, else 0", WorksEdgesTest::outInTheStreet);
        edges.edge("Promise 11: boil", "NONE, doing nothing, behind 999 of them.", WorksEdgesTest::behindThemAll);
        edges.edge("Promise 12: wash", "It washes: how much is in the VAT then, of all KINDS together", WorksEdgesTest::whatIsLeft);
        edges.edge("Promise 12: wash", "NONE, doing nothing, if it is EASED, there is not enough, or there is none such.", this::washIsRefused);
        edges.edge("Promise 13: sweep", "It is swept out: how much there was", WorksEdgesTest::sweptOut);
        edges.edge("Promise 13: sweep", "NONE, doing nothing, if there is none of it, or there is none such.", this::sweepIsRefused);
    }

    private static void allTogether() {
        StringBuilder text = new StringBuilder(FIVE + "rises 0;");
        for (char p = 'a'; p < 'h'; p++) text.append("person ").append(p).append(" has a 20 b 20 c 20 d 20 e 20;");
        SoapWorks x = CHECK.of(text.toString());
        for (int p = 0; p < 7; p++) CHECK.due("confess(" + p + ")", x.confess(p), 100 * (p + 1));
        CHECK.vat(x, 140, 140, 140, 140, 140);
        SoapWorks least = CHECK.of("kind a;kind b;person p has b 1;");
        CHECK.due("confess(0) of the least", least.confess(0), 1);
        CHECK.vat(least, 0, 1);
    }

    private void confessIsRefused() {
        edges.refused(WorksEdgesTest::used, "confess(0) of one who has", x -> x.confess(0));
        edges.refused(WorksEdgesTest::used, "confess(3)", x -> x.confess(3));
        for (int off : FAR_OFF) edges.refused(WorksEdgesTest::used, "confess(" + off + ")", x -> x.confess(off));
        edges.refused(SoapWorks::new, "confess(0) without PEOPLE", x -> x.confess(0));
        // One whose telling was taken back has not TOLD, nor has one before an image was made.
        SoapWorks x = used();
        CHECK.due("confess(1) behind undo()", x.confess(1) > 0, true);
        x.back(1);
        CHECK.due("confess(1) behind back(1)", x.confess(1) > 0, true);
        CHECK.due("confess(1) again", x.confess(1), -1);
        // That it went out into the street, or was swept out, makes no one untold.
        SoapWorks street = told("kind a;person p has a 3;rises 1;", 0);
        street.boil();
        CHECK.due("confess(0)", street.confess(0), -1);
    }

    private static void outInTheStreet() {
        SoapWorks x = CHECK.of("rises day=2;");
        int[] due = {0, 1, 0};
        for (int i = 0; i < 3; i++) CHECK.due("boil() " + i, x.boil(), due[i]);
        CHECK.due("about(6)", x.about(6), 1);
    }

    /** These are more calls than an object is used for; the limit is kept all the same. */
    private static void behindThemAll() {
        SoapWorks x = CHECK.of("kind a;person p has a 5;rises day>998;");
        for (int day = 1; day < 999; day++) x.boil();
        CHECK.due("about(7)", x.about(7), 998);
        CHECK.due("boil(), the 999th", x.boil(), 1);
        int seed = x.about(8);
        CHECK.due("boil() behind 999", x.boil(), -1);
        CHECK.due("about(6)", x.about(6), 1);
        CHECK.due("about(7)", x.about(7), 999);
        CHECK.due("about(8)", x.about(8), seed);
        CHECK.due("about(9)", x.about(9), 40);
        x.undo();
        CHECK.due("boil() leaves what can be redone", x.about(10), 1);
        CHECK.due("boil()", x.boil(), 1);
        x.undo();
        x.redo();
        CHECK.due("about(7)", x.about(7), 999);
        CHECK.due("boil()", x.boil(), -1);
    }

    private static void whatIsLeft() {
        SoapWorks x = told("kind a;kind b;person p has a 5 b 2;basin m wants a 4 b 2;basin n wants a 1;", 0);
        CHECK.due("wash(0)", x.wash(0), 1);
        CHECK.vat(x, 1, 0);
        CHECK.due("wash(1): all there is", x.wash(1), 0);
        CHECK.vat(x, 0, 0);
        CHECK.due("about(5)", x.about(5), 3);
    }

    private void washIsRefused() {
        edges.refused(WorksEdgesTest::used, "wash(0) of an EASED one", x -> x.wash(0));
        edges.refused(WorksEdgesTest::used, "wash(1): there is not enough", x -> x.wash(1));
        edges.refused(WorksEdgesTest::used, "wash(3)", x -> x.wash(3));
        for (int off : FAR_OFF) edges.refused(WorksEdgesTest::used, "wash(" + off + ")", x -> x.wash(off));
        edges.refused(SoapWorks::new, "wash(0) without BASINS", x -> x.wash(0));
        CHECK.due("used() has just enough for the third", used().vat(0), 6);
        CHECK.due("wash(2)", used().wash(2) >= 0, true);
        // One too little of one KIND, whichever it is, and enough of the others.
        for (int kind = 0; kind < 5; kind++) {
            StringBuilder mind = new StringBuilder(FIVE + "person p has ");
            for (int k = 0; k < 5; k++) mind.append((char) ('a' + k)).append(' ').append(k == kind ? 6 : 7).append(' ');
            Supplier<SoapWorks> short1 = () -> told(mind + ";basin x wants a 7 b 7 c 7 d 7 e 7;basin y wants a 6 b 6 c 6 d 6 e 6;", 0);
            edges.refused(short1, "wash(0)", x -> x.wash(0));
            CHECK.due("wash(1)", short1.get().wash(1), 4);
        }
        // There is enough, but it is EASED.
        SoapWorks x = told("kind a;person p has a 9;basin x wants a 1;", 0);
        CHECK.due("wash(0)", x.wash(0), 8);
        CHECK.due("wash(0) again", x.wash(0), -1);
        x.undo();
        CHECK.due("wash(0) behind undo()", x.wash(0), 8);
    }

    private static void sweptOut() {
        SoapWorks x = told("kind a;kind b;person p has a 20 b 1;", 0);
        CHECK.due("sweep(0)", x.sweep(0), 20);
        CHECK.vat(x, 0, 1);
        CHECK.due("sweep(1)", x.sweep(1), 1);
        CHECK.vat(x, 0, 0);
    }

    private void sweepIsRefused() {
        edges.refused(() -> told(USED, 1), "sweep(0) of none", x -> x.sweep(0));
        edges.refused(WorksEdgesTest::used, "sweep(3)", x -> x.sweep(3));
        for (int off : FAR_OFF) edges.refused(WorksEdgesTest::used, "sweep(" + off + ")", x -> x.sweep(off));
        edges.refused(SoapWorks::new, "sweep(0) without KINDS", x -> x.sweep(0));
        SoapWorks five = told(FIVE + "person p has e 3;", 0);
        CHECK.due("sweep(4)", five.sweep(4), 3);
        CHECK.due("sweep(5)", five.sweep(5), -1);
    }

    // ---- promises 14 and 15

    private void undone() {
        for (String promise : new String[] {"Promise 10: confess", "Promise 11: boil", "Promise 12: wash", "Promise 13: sweep"}) {
            edges.edge(promise, "(An ACT.)", () -> anAct(promise));
        }
        edges.edge("Promise 14: undo", "UNDO: true", WorksEdgesTest::oneIsUndone);
        edges.edge("Promise 14: undo", "false if there is none.", this::nothingToUndo);
        edges.edge("Promise 15: redo", "REDO: true", WorksEdgesTest::oneIsRedone);
        edges.edge("Promise 15: redo", "false if there is none.", this::nothingToRedo);
    }

    /** What it does can be undone and redone, and it is the only one. */
    private static void anAct(String promise) {
        SoapWorks x = CHECK.of("kind a;kind b;person p has a 6 b 2;person q has b 5;boils a b into a 1;basin m wants a 1;draw 9;");
        x.confess(0);
        x.image(0);
        x.back(0);
        int[] before = {6, 2, 1, 0, 0, 0, 9};
        int[] then = before.clone();
        switch (promise) {
            case "Promise 10: confess" -> {
                x.confess(1);
                then = new int[] {6, 7, 3, 0, 0, 0, 9};
            }
            case "Promise 11: boil" -> {
                x.boil();
                then = new int[] {6, 1, 1, 0, 0, 1, 304};
            }
            case "Promise 12: wash" -> {
                x.wash(0);
                then = new int[] {5, 2, 1, 1, 0, 0, 9};
            }
            default -> {
                x.sweep(1);
                then = new int[] {6, 0, 1, 0, 0, 0, 9};
            }
        }
        state(x, then);
        CHECK.due("about(9)", x.about(9), 1);
        CHECK.due("undo()", x.undo(), true);
        state(x, before);
        CHECK.due("about(9)", x.about(9), 0);
        CHECK.due("about(10)", x.about(10), 1);
        CHECK.due("redo()", x.redo(), true);
        state(x, then);
        CHECK.due("undo()", x.undo(), true);
        CHECK.due("undo() of no other", x.undo(), false);
        state(x, before);
    }

    private static void oneIsUndone() {
        SoapWorks x = told(USED, 0, 1);
        CHECK.due("undo()", x.undo(), true);
        CHECK.due("about(4)", x.about(4), 1);
        CHECK.due("undo()", x.undo(), true);
        CHECK.due("about(4)", x.about(4), 0);
        // A BOILING that changes nothing in the VAT is one, too.
        SoapWorks empty = new SoapWorks();
        empty.boil();
        CHECK.due("undo()", empty.undo(), true);
        CHECK.due("about(7)", empty.about(7), 0);
        CHECK.due("about(8)", empty.about(8), 0);
    }

    private static void oneIsRedone() {
        SoapWorks x = told(USED, 0, 1);
        x.undo();
        x.undo();
        CHECK.due("redo()", x.redo(), true);
        CHECK.due("about(4): that which was taken back last", x.about(4), 1);
        CHECK.due("redo()", x.redo(), true);
        CHECK.due("about(4)", x.about(4), 3);
        SoapWorks empty = new SoapWorks();
        empty.boil();
        empty.undo();
        CHECK.due("redo()", empty.redo(), true);
        CHECK.due("about(7)", empty.about(7), 1);
        CHECK.due("about(8)", empty.about(8), 71);
    }

    private void nothingToUndo() {
        edges.doesNothing(SoapWorks::new, "undo() of a new one", x -> x.undo() ? 1 : 0, 0);
        edges.doesNothing(() -> CHECK.of(USED), "undo() of a new WORKS", x -> x.undo() ? 1 : 0, 0);
        Supplier<SoapWorks> allUndone = () -> {
            SoapWorks x = told(USED, 0, 1);
            x.undo();
            x.undo();
            return x;
        };
        edges.doesNothing(allUndone, "undo() of all undone", x -> x.undo() ? 1 : 0, 0);
        Supplier<SoapWorks> back = () -> {
            SoapWorks x = used();
            x.back(1);
            return x;
        };
        edges.doesNothing(back, "undo() behind back(1)", x -> x.undo() ? 1 : 0, 0);
        CHECK.due("undo() of one ACT", told(USED, 0).undo(), true);
    }

    private void nothingToRedo() {
        edges.doesNothing(SoapWorks::new, "redo() of a new one", x -> x.redo() ? 1 : 0, 0);
        edges.doesNothing(() -> told(USED, 0, 1), "redo() of nothing undone", x -> x.redo() ? 1 : 0, 0);
        Supplier<SoapWorks> allRedone = () -> {
            SoapWorks x = told(USED, 0, 1);
            x.undo();
            x.redo();
            return x;
        };
        edges.doesNothing(allRedone, "redo() of all redone", x -> x.redo() ? 1 : 0, 0);
        Supplier<SoapWorks> another = () -> {
            SoapWorks x = told(USED, 0, 1);
            x.undo();
            x.confess(2);
            return x;
        };
        edges.doesNothing(another, "redo() behind another ACT", x -> x.redo() ? 1 : 0, 0);
        Supplier<SoapWorks> back = () -> {
            SoapWorks x = used();
            x.back(1);
            return x;
        };
        edges.doesNothing(back, "redo() behind back(1)", x -> x.redo() ? 1 : 0, 0);
    }

    // ---- promises 49 to 51

    private void kept() {
        edges.edge("Promise 49: image", "The VAT, who has TOLD, what is EASED, the STREET, the day, the SEED are kept in a BOX 0 .. 2: the day",
                WorksEdgesTest::boxesAreFilled);
        edges.edge("Promise 49: image", "NONE if there is none such.", this::noSuchBox);
        edges.edge("Promise 50: back", "All is as it was kept (no ACTS are kept then): the day", WorksEdgesTest::asItWasKept);
        edges.edge("Promise 50: back", "NONE, doing nothing, if nothing was.", this::nothingWasKept);
        edges.edge("Promise 51: about", "What 0: PEOPLE, 1: KINDS, 2: RULES, 3: BASINS", WorksEdgesTest::aboutTheWorks);
        edges.edge("Promise 51: about", "4: who has TOLD, 5: what is EASED, both as bits, 6: how often the STREET has had it, 7: the day,"
                + " 8: the SEED", WorksEdgesTest::aboutWhatIs);
        edges.edge("Promise 51: about", "9: ACTS that can be undone, 10: redone, 11: what is SEEN, 12: the TIME, 13: bytes on the TAPE,"
                + " 14: units, 15: numbers that lie there, 16: scum in 100.", WorksEdgesTest::aboutTheRest);
        edges.edge("Promise 51: about", "NONE for another what.", this::aboutNothing);
    }

    /** A part of each is unlike in each BOX. */
    private static void boxesAreFilled() {
        SoapWorks x = CHECK.of("kind a;kind b;person p has a 9 b 1;person q has a 7;basin x wants a 2;rises day=2;draw 5;");
        CHECK.due("image(0)", x.image(0), 0);
        x.confess(0);
        x.wash(0);
        x.boil();
        CHECK.due("image(1)", x.image(1), 1);
        x.boil();
        x.confess(1);
        CHECK.due("image(2)", x.image(2), 2);
        int[][] due = {{0, 0, 0, 0, 0, 0, 5}, {7, 1, 1, 1, 0, 1, 756}, {7, 0, 3, 1, 1, 2, 643}};
        for (int box : new int[] {1, 0, 2, 1, 2, 0}) {
            CHECK.due("back(" + box + ")", x.back(box), due[box][5]);
            state(x, due[box]);
        }
    }

    private static void state(SoapWorks x, int... due) {
        int[] got = {x.vat(0), x.vat(1), x.about(4), x.about(5), x.about(6), x.about(7), x.about(8)};
        for (int i = 0; i < due.length; i++) CHECK.due("part " + i + " of the state", got[i], due[i]);
    }

    private void noSuchBox() {
        edges.refused(WorksEdgesTest::used, "image(3)", x -> x.image(3));
        for (int off : FAR_OFF) edges.refused(WorksEdgesTest::used, "image(" + off + ")", x -> x.image(off));
        CHECK.due("image(0) of a new one", new SoapWorks().image(0), 0);
        CHECK.due("image(2) of a new one", new SoapWorks().image(2), 0);
    }

    private static void asItWasKept() {
        SoapWorks x = told(USED, 0);
        x.image(0);
        x.boil();
        x.confess(1);
        x.undo();
        x.seen(0, 0, 1, true);
        x.later(7);
        x.order(0);
        CHECK.due("about(9)", x.about(9), 2);
        CHECK.due("about(10)", x.about(10), 1);
        CHECK.due("back(0)", x.back(0), 0);
        CHECK.due("about(9): no ACTS are kept", x.about(9), 0);
        CHECK.due("about(10): no ACTS are kept", x.about(10), 0);
        CHECK.due("undo()", x.undo(), false);
        CHECK.due("redo()", x.redo(), false);
        state(x, 9, 2, 1, 0, 0, 0, 42);
        // What else there is is not kept in a BOX and stays.
        CHECK.due("about(11)", x.about(11), 1);
        CHECK.due("about(12)", x.about(12), 7);
        CHECK.due("about(15)", x.about(15), 2);
        // It is gone on from: the BOX keeps what it has, whatever is done then.
        x.boil();
        x.sweep(0);
        CHECK.due("about(9)", x.about(9), 2);
        CHECK.due("back(0) again", x.back(0), 0);
        state(x, 9, 2, 1, 0, 0, 0, 42);
        // A second image takes the first one's place.
        x.boil();
        CHECK.due("image(0)", x.image(0), 1);
        x.sweep(0);
        CHECK.due("back(0)", x.back(0), 1);
        CHECK.due("vat(0)", x.vat(0) > 0, true);
        // UNDO does not take an image back.
        x.confess(1);
        x.image(2);
        x.undo();
        CHECK.due("back(2)", x.back(2), 1);
        CHECK.due("about(4)", x.about(4), 3);
    }

    private void nothingWasKept() {
        edges.refused(WorksEdgesTest::used, "back(0)", x -> x.back(0));
        edges.refused(WorksEdgesTest::used, "back(2)", x -> x.back(2));
        edges.refused(WorksEdgesTest::used, "back(3)", x -> x.back(3));
        for (int off : FAR_OFF) edges.refused(WorksEdgesTest::used, "back(" + off + ")", x -> x.back(off));
        for (int box = 0; box < 3; box++) {
            int here = box;
            edges.refused(SoapWorks::new, "back(" + box + ") of a new one", x -> x.back(here));
        }
    }

    private static void aboutTheWorks() {
        SoapWorks x = CHECK.of(FIVE + "person p has a 1;person q has a 1;boils a a into a 1;boils a a into a 1;boils a a into a 1;"
                + "basin x wants a 1;basin y wants a 1;basin z wants b 1;basin w wants c 1;");
        int[] due = {2, 5, 3, 4};
        for (int what = 0; what < 4; what++) CHECK.due("about(" + what + ")", x.about(what), due[what]);
    }

    private static void aboutWhatIs() {
        StringBuilder text = new StringBuilder("kind a;rises day>2;draw 999;basin w wants a 1;basin x wants a 1;basin y wants a 1;basin z wants a 1;");
        for (int p = 0; p < 7; p++) text.append("person ").append((char) ('p' + p)).append(" has a 1;");
        SoapWorks x = CHECK.of(text.toString());
        for (int p = 6; p >= 0; p--) {
            x.confess(p);
            CHECK.due("about(4)", x.about(4), 128 - (1 << p));
        }
        for (int b = 3; b >= 0; b--) {
            x.wash(b);
            CHECK.due("about(5)", x.about(5), 16 - (1 << b));
        }
        int[] street = {0, 0, 1, 2, 3};
        int seed = 999;
        for (int day = 1; day <= 5; day++) {
            x.boil();
            seed = (seed * 137 + 71) % 1000;
            CHECK.due("about(6)", x.about(6), street[day - 1]);
            CHECK.due("about(7)", x.about(7), day);
            CHECK.due("about(8)", x.about(8), seed);
        }
    }

    private static void aboutTheRest() {
        SoapWorks x = CHECK.of("kind a;person p has a 3;scum 99;rises all>(9);");
        for (int i = 1; i <= 41; i++) {
            x.boil();
            CHECK.due("about(9) behind " + i, x.about(9), Math.min(40, i));
        }
        for (int i = 1; i <= 41; i++) {
            x.undo();
            CHECK.due("about(9) behind " + i + " undone", x.about(9), Math.max(0, 40 - i));
            CHECK.due("about(10) behind " + i + " undone", x.about(10), Math.min(40, i));
        }
        for (int i = 1; i <= 31; i++) {
            x.seen(0, 0, 0, true);
            CHECK.due("about(11) behind " + i, x.about(11), Math.min(30, i));
        }
        x.untell(3);
        CHECK.due("about(11): what is UNTOLD is SEEN, too", x.about(11), 30);
        x.later(1000);
        CHECK.due("about(12)", x.about(12), 1000);
        x.feed(0, 0, 0, 0, 0);
        CHECK.due("about(13)", x.about(13), 20);
        x.end(3);
        CHECK.due("about(13)", x.about(13), 3);
        CHECK.due("about(14)", x.about(14), 3);
        CHECK.due("about(15)", x.about(15), 0);
        CHECK.due("about(16)", x.about(16), 99);
    }

    private void aboutNothing() {
        edges.refused(WorksEdgesTest::used, "about(17)", x -> x.about(17));
        for (int off : FAR_OFF) edges.refused(WorksEdgesTest::used, "about(" + off + ")", x -> x.about(off));
    }

    // ---- Terms, part 2

    private void theVat() {
        terms("In the VAT is so much of each KIND (0 at first; 999 at most).", WorksEdgesTest::asMuchAsThereCanBe);
        terms("One of the PEOPLE has TOLD, or not (at first); a BASIN is EASED, or not (at first).", WorksEdgesTest::atFirst);
    }

    /** 700 in all can be told, and a BOILING makes less of it: 999 of a KIND never come to be. */
    private static void asMuchAsThereCanBe() {
        StringBuilder text = new StringBuilder(FIVE + "rises 0;boils a b into e 9;boils c d into e 9;");
        for (char p = 'a'; p < 'h'; p++) text.append("person ").append(p).append(" has a 20 b 20 c 20 d 20 e 20;");
        SoapWorks x = CHECK.of(text.toString());
        CHECK.vat(x, 0, 0, 0, 0, 0);
        for (int p = 0; p < 7; p++) x.confess(p);
        CHECK.due("will(4, 60, 0): 140 and twice 140", x.will(4, 60, 0), 420);
        CHECK.due("mission()", x.mission(), 700);
    }

    private static void atFirst() {
        SoapWorks x = CHECK.of(USED);
        CHECK.due("about(4)", x.about(4), 0);
        CHECK.due("about(5)", x.about(5), 0);
        for (int p = 0; p < 3; p++) CHECK.due("confess(" + p + ")", x.confess(p) > 0, true);
        CHECK.due("wash(0)", x.wash(0) > 0, true);
        CHECK.due("about(4)", x.about(4), 7);
        CHECK.due("about(5)", x.about(5), 1);
    }

    private void boilings() {
        terms("RULE by RULE (as told, by what is so then)", WorksEdgesTest::ruleByRule);
        terms("of its first and its second KIND so much becomes its third one as there is of both, at most what it tells",
                WorksEdgesTest::asThereIsOfBoth);
        terms("k of the first, k of the second go, k of the third come", WorksEdgesTest::whatGoesAndComes);
        terms("(if the first two are one KIND: k is at most half of it, cut, 2 k go;", WorksEdgesTest::halfOfIt);
        terms("the third one may be one of them)", WorksEdgesTest::oneOfThem);
    }

    /** What one BOILING makes of what one of the PEOPLE has. */
    private static void boiled(String mind, String rules, int... due) {
        SoapWorks x = told("kind a;kind b;kind c;person p has " + mind + ";" + rules + "rises 0;", 0);
        CHECK.due("boil() by '" + rules + "'", x.boil(), 0);
        CHECK.vat(x, due);
    }

    private static void ruleByRule() {
        boiled("a 4", "boils a a into b 9;boils b b into c 9;", 0, 0, 1);
        boiled("a 4", "boils b b into c 9;boils a a into b 9;", 0, 2, 0);
        boiled("a 4 b 4", "boils a b into c 1;boils a b into c 1;", 2, 2, 2);
        boiled("a 4 b 4", "", 4, 4, 0);
        boiled("a 9 b 9", "boils a b into c 1;".repeat(6), 3, 3, 6);
    }

    private static void asThereIsOfBoth() {
        boiled("a 1 b 5", "boils a b into c 9;", 0, 4, 1);
        boiled("a 5 b 1", "boils a b into c 9;", 4, 0, 1);
        boiled("a 5 b 5", "boils a b into c 9;", 0, 0, 5);
        boiled("a 5", "boils a b into c 9;", 5, 0, 0);
        boiled("b 5", "boils a b into c 9;", 0, 5, 0);
        boiled("c 5", "boils a b into c 9;", 0, 0, 5);
        // At most what it tells.
        boiled("a 9 b 9", "boils a b into c 8;", 1, 1, 8);
        boiled("a 9 b 9", "boils a b into c 9;", 0, 0, 9);
        boiled("a 10 b 10", "boils a b into c 9;", 1, 1, 9);
        boiled("a 20 b 20", "boils a b into c 1;", 19, 19, 1);
    }

    private static void whatGoesAndComes() {
        boiled("a 5 b 6 c 7", "boils a b into c 3;", 2, 3, 10);
        boiled("a 5 b 6 c 7", "boils b c into a 3;", 8, 3, 4);
        boiled("a 5 b 6 c 7", "boils c a into b 3;", 2, 9, 4);
    }

    private static void halfOfIt() {
        int[][] due = {{1, 1, 0}, {2, 0, 1}, {3, 1, 1}, {4, 0, 2}, {5, 1, 2}, {17, 1, 8}, {18, 0, 9}, {19, 1, 9}, {20, 2, 9}};
        for (int[] row : due) boiled("a " + row[0], "boils a a into b 9;", row[1], row[2], 0);
        boiled("a 9", "boils a a into b 4;", 1, 4, 0);
        boiled("a 9", "boils a a into b 3;", 3, 3, 0);
    }

    private static void oneOfThem() {
        boiled("a 7 b 4", "boils a b into a 3;", 7, 1, 0);
        boiled("a 7 b 4", "boils a b into b 3;", 4, 4, 0);
        boiled("a 7", "boils a a into a 2;", 5, 0, 0);
        boiled("a 2", "boils a a into a 9;", 1, 0, 0);
        boiled("a 1", "boils a a into a 9;", 1, 0, 0);
    }

    private void risen() {
        terms("(all - 50, if it is not told)", WorksEdgesTest::theUntoldFormula);
        terms("all (of all KINDS together), kinds (how many KINDS there are some of)", WorksEdgesTest::allAndKinds);
        terms("most, least (the most, the least there is of any KIND; 0 without KINDS)", WorksEdgesTest::mostAndLeast);
        terms("tellers (how many have TOLD), day (how many BOILINGS there were;", WorksEdgesTest::tellersAndDay);
        terms("ints, wrapping", WorksEdgesTest::intsWrap);
        terms("/ cut, % its rest, both by 0: 0", WorksEdgesTest::divided);
        terms("relations, and, or, not are 1 or 0, of what is not 0)", WorksEdgesTest::oneOrNothing);
        terms("is above 0.", WorksEdgesTest::aboveNothing);
    }

    private static void theUntoldFormula() {
        String people = "kind a;kind b;person p has a 20 b 20;person q has a 9;person r has b 1;person s has a 1;";
        int[][] due = {{49, 0}, {50, 0}, {51, 1}};
        SoapWorks x = told(people, 0);
        for (int i = 0; i < 3; i++) {
            CHECK.due("confess", x.confess(i + 1), due[i][0]);
            CHECK.due("boil() at " + due[i][0], x.boil(), due[i][1]);
        }
        CHECK.vat(x, 0, 0);
        CHECK.due("boil() of none", new SoapWorks().boil(), 0);
        // That of the WORKS before is gone with it, and of the one before that.
        String[] texts = {"rises 1;", people, "rises 0;", people, "rises 1;", "rises 0;", "rises 0;", "rises 1;", "rises 1;", people, "", ""};
        for (String text : texts) {
            Check.tell(x, text);
            CHECK.due("rise() by '" + text + "'", x.rise(), text.equals("rises 1;") ? 1 : -1);
            CHECK.due("boil() by '" + text + "'", x.boil(), text.equals("rises 1;") ? 1 : 0);
        }
    }

    private static void by(String formula, int want, String text, int... who) {
        String due = want < 0 ? "0-" + -want : String.valueOf(want);
        CHECK.due("boil() by (" + formula + ") = " + want, told(text + "rises (" + formula + ")=" + due + ";", who).boil(), 1);
    }

    private static final String SOME = "kind a;kind b;kind c;person p has a 4 b 9;person q has c 2;person r has b 1;";

    private static void allAndKinds() {
        by("all", 0, SOME);
        by("all", 1, SOME, 2);
        by("all", 16, SOME, 0, 1, 2);
        by("kinds", 0, SOME);
        by("kinds", 1, SOME, 2);
        by("kinds", 2, SOME, 0);
        by("kinds", 3, SOME, 0, 1);
        by("all", 0, "");
        by("kinds", 0, "");
        String five = FIVE + "person p has a 1 b 1 c 1 d 1 e 1;person q has e 7;";
        by("kinds", 5, five, 0);
        by("all", 12, five, 0, 1);
    }

    private static void mostAndLeast() {
        by("most", 0, "");
        by("least", 0, "");
        by("most", 0, SOME);
        by("least", 0, SOME);
        by("most", 9, SOME, 0);
        by("least", 0, SOME, 0);
        by("most", 10, SOME, 0, 2);
        by("least", 2, SOME, 0, 1);
        by("least", 20, "kind a;person p has a 20;", 0);
        by("most", 20, "kind a;person p has a 20;", 0);
        String five = FIVE + "person p has a 3 b 3 c 3 d 3 e 2;person q has e 7;";
        by("least", 2, five, 0);
        by("most", 3, five, 0);
        by("most", 9, five, 0, 1);
        by("least", 3, five, 0, 1);
    }

    private static void tellersAndDay() {
        by("tellers", 0, "");
        by("tellers", 0, SOME);
        by("tellers", 1, SOME, 1);
        by("tellers", 3, SOME, 0, 1, 2);
        by("day", 1, "");
        SoapWorks x = CHECK.of("rises day>3;");
        int[] due = {0, 0, 0, 1, 1};
        for (int i = 0; i < due.length; i++) CHECK.due("boil() " + i, x.boil(), due[i]);
        x.undo();
        x.undo();
        CHECK.due("about(7)", x.about(7), 3);
        CHECK.due("boil()", x.boil(), 1);
        // Who told and was swept out has TOLD.
        SoapWorks swept = told(SOME + "rises tellers=2;", 1, 2);
        swept.sweep(1);
        swept.sweep(2);
        CHECK.due("boil()", swept.boil(), 1);
    }

    private static void is(String formula, boolean risen) {
        CHECK.due("boil() by '" + formula + "'", CHECK.of("rises " + formula + ";").boil(), risen ? 1 : 0);
    }

    private static void intsWrap() {
        is(MIN + "<0", true);
        is(MIN + "-1>0", true);
        is(MIN + "-1+1=" + MIN, true);
        is("0-" + MIN + "=" + MIN, true);
        is(MIN + "*(0-1)=" + MIN, true);
        is(MIN + "*2=0", true);
        is("4096*4096*256=0", true);
        is("9999*9999*9999>0", 9999 * 9999 * 9999 > 0);
        is("9999*9999*22<0", 9999 * 9999 * 22 < 0);
        is(MIN + "<" + MIN + "-1", true);
    }

    private static void divided() {
        by("7/2", 3, "");
        by("(0-7)/2", -3, "");
        by("7/(0-2)", -3, "");
        by("(0-7)/(0-2)", 3, "");
        by("1/2", 0, "");
        by("7%2", 1, "");
        by("(0-7)%2", -1, "");
        by("7%(0-2)", 1, "");
        by("6%2", 0, "");
        by("7/0", 0, "");
        by("7%0", 0, "");
        by("0/0", 0, "");
        by("0%0", 0, "");
        by("(0-7)/(1-1)", 0, "");
        is(MIN + "/(0-1)=" + MIN, true);
        is(MIN + "%(0-1)=0", true);
        is(MIN + "/0=0", true);
        is(MIN + "%0=0", true);
        by("100/7/2", 7, "");
        by("100%7*2", 4, "");
        by("2*100%7", 4, "");
        by("1+all/day", 1, "");
        by("7%tellers", 0, "");
    }

    private static void oneOrNothing() {
        int[][] table = {{0, 0}, {0, 1}, {1, 0}, {1, 1}, {0, 5}, {5, 0}, {5, 7}, {7, 5}, {-3, 0}, {0, -3}, {-3, -3}, {-3, 2}, {2, -3}};
        for (int[] pair : table) {
            String left = pair[0] < 0 ? "(0-" + -pair[0] + ")" : "" + pair[0];
            String right = pair[1] < 0 ? "(0-" + -pair[1] + ")" : "" + pair[1];
            by(left + "<" + right, pair[0] < pair[1] ? 1 : 0, "");
            by(left + ">" + right, pair[0] > pair[1] ? 1 : 0, "");
            by(left + "=" + right, pair[0] == pair[1] ? 1 : 0, "");
            by(left + " and " + right, pair[0] != 0 && pair[1] != 0 ? 1 : 0, "");
            by(left + " or " + right, pair[0] != 0 || pair[1] != 0 ? 1 : 0, "");
            by("not " + left, pair[0] == 0 ? 1 : 0, "");
            by("not not " + left, pair[0] == 0 ? 0 : 1, "");
        }
        // As it binds.
        by("1 or 1 and 0", 1, "");
        by("0 and 0 or 1", 1, "");
        by("not 1 or 1", 1, "");
        by("not 0 and 0", 0, "");
        by("not 1<0", 1, "");
        by("not 0+1", 0, "");
        by("1<2+0", 1, "");
        by("1+1<2", 0, "");
        by("2+3*4-5", 9, "");
        by("7-2-1", 4, "");
        by("not 2=2 or 3>2 and 1<2", 1, "");
    }

    private static void aboveNothing() {
        is("0", false);
        is("1", true);
        is("9999", true);
        is("0-1", false);
        is("1-1", false);
        is("2-1", true);
        is(MIN, false);
        is(MIN + "+1", false);
        is(MIN + "-1", true);
    }

    private void inEarnest() {
        terms("the SEED (draw, at first) becomes its 137-fold and 71 more, modulo 1,000", WorksEdgesTest::theSeed);
        terms("if its rest by 100 is less than scum tells, 1 of each KIND is lost (0 at least)", WorksEdgesTest::scum);
        terms("The day goes up by 1; then, if it is RISEN, it is out in the street: there is 0 of each KIND (the STREET has had it once more).",
                WorksEdgesTest::theStreet);
    }

    private static void theSeed() {
        int[][] due = {{0, 71}, {999, 934}, {1, 208}, {9, 304}, {777, 520}, {357, 980}, {937, 440}, {700, 971}};
        for (int[] row : due) {
            SoapWorks x = CHECK.of("draw " + row[0] + ";");
            CHECK.due("about(8)", x.about(8), row[0]);
            x.boil();
            CHECK.due("about(8) behind a draw of " + row[0], x.about(8), row[1]);
        }
        // With or without KINDS, scum or a street.
        SoapWorks x = CHECK.of("kind a;person p has a 1;draw 999;scum 100;rises 1;");
        x.boil();
        CHECK.due("about(8)", x.about(8), 934);
    }

    /** How much is left of 5 behind a BOILING. */
    private static void left(int draw, int scum, int due) {
        SoapWorks x = told("kind a;person p has a 5;scum " + scum + ";draw " + draw + ";", 0);
        x.boil();
        CHECK.due("vat(0) by draw " + draw + ", scum " + scum, x.vat(0), due);
    }

    private static void scum() {
        // 9 becomes 304: its rest is 4; 0 becomes 71; 357, 980; 164, 539; 44, 99; 777, 520.
        left(9, 4, 5);
        left(9, 5, 4);
        left(0, 71, 5);
        left(0, 72, 4);
        left(357, 80, 5);
        left(357, 81, 4);
        left(164, 39, 5);
        left(164, 40, 4);
        left(44, 99, 5);
        left(44, 100, 4);
        left(777, 20, 5);
        left(777, 21, 4);
        // 517 becomes 900: a rest of 0 is less than 1, and not than 0.
        left(517, 0, 5);
        left(517, 1, 4);
        // Of each KIND, behind the RULES, 0 at least.
        SoapWorks x = told(FIVE + "person p has a 2 b 1 c 20 e 1;boils a b into d 9;scum 100;rises 0;", 0);
        x.boil();
        CHECK.vat(x, 0, 0, 19, 0, 0);
        x.boil();
        CHECK.vat(x, 0, 0, 18, 0, 0);
        for (int draw = 0; draw < 1000; draw += 37) {
            left(draw, 0, 5);
            left(draw, 100, 4);
        }
    }

    private static void theStreet() {
        SoapWorks x = told(FIVE + "person p has a 5 b 4 c 3 d 2 e 1;person q has a 2;basin x wants e 1;rises day=2;", 0);
        x.wash(0);
        CHECK.due("boil()", x.boil(), 0);
        CHECK.vat(x, 5, 4, 3, 2, 0);
        CHECK.due("about(6)", x.about(6), 0);
        CHECK.due("boil()", x.boil(), 1);
        CHECK.vat(x, 0, 0, 0, 0, 0);
        CHECK.due("about(4)", x.about(4), 1);
        CHECK.due("about(5)", x.about(5), 1);
        CHECK.due("about(6)", x.about(6), 1);
        CHECK.due("about(7)", x.about(7), 2);
        CHECK.due("confess(1)", x.confess(1), 2);
        CHECK.due("boil()", x.boil(), 0);
        CHECK.vat(x, 2, 0, 0, 0, 0);
        // Of an empty VAT, too, it is once more.
        SoapWorks empty = CHECK.of("rises 1;");
        for (int i = 1; i <= 3; i++) {
            CHECK.due("boil()", empty.boil(), 1);
            CHECK.due("about(6)", empty.about(6), i);
        }
        // By what is there behind the RULES and behind the scum.
        CHECK.due("boil() by rules", told("kind a;person p has a 6;boils a a into a 9;rises all>3;", 0).boil(), 0);
        CHECK.due("boil() by scum", told("kind a;person p has a 6;scum 100;rises all>5;", 0).boil(), 0);
        CHECK.due("boil() by scum", told("kind a;person p has a 6;scum 100;rises all>4;", 0).boil(), 1);
    }

    private void acts() {
        terms("one who has not TOLD tells (what he has comes into the VAT)", WorksEdgesTest::whatHeHas);
        terms("a BASIN that is not EASED washes (if there is what it wants of each KIND: that goes, it is EASED)", WorksEdgesTest::thatGoes);
        terms("a KIND is swept out (0 then)", WorksEdgesTest::noneOfIt);
        terms("UNDO takes back the latest ACT that was not, REDO does that again which was taken back last (till another ACT)",
                WorksEdgesTest::takenBack);
        terms("40 at most are kept, the oldest go.", WorksEdgesTest::fortyAtMost);
    }

    private static void whatHeHas() {
        SoapWorks x = told(FIVE + "person p has e 1 a 20;person q has a 3 b 4;", 1);
        CHECK.vat(x, 3, 4, 0, 0, 0);
        x.confess(0);
        CHECK.vat(x, 23, 4, 0, 0, 1);
    }

    private static void thatGoes() {
        SoapWorks x = told(FIVE + "person p has a 5 b 4 c 3 d 2 e 1;basin x wants a 1 e 1;basin y wants b 4;", 0);
        CHECK.due("wash(0)", x.wash(0), 13);
        CHECK.vat(x, 4, 4, 3, 2, 0);
        CHECK.due("about(5)", x.about(5), 1);
        CHECK.due("wash(1)", x.wash(1), 9);
        CHECK.vat(x, 4, 0, 3, 2, 0);
        CHECK.due("about(5)", x.about(5), 3);
    }

    private static void noneOfIt() {
        SoapWorks x = told(FIVE + "person p has a 5 b 4 c 3 d 2 e 1;", 0);
        for (int kind = 4; kind >= 0; kind--) {
            CHECK.due("sweep(" + kind + ")", x.sweep(kind), 5 - kind);
            for (int k = 0; k < 5; k++) CHECK.due("vat(" + k + ")", x.vat(k), k < kind ? 5 - k : 0);
        }
    }

    private static void takenBack() {
        SoapWorks x = CHECK.of("kind a;kind b;person p has a 5 b 2;person q has b 1;basin m wants a 1;rises day=1;draw 9;");
        int[][] states = {{0, 0, 0, 0, 0, 0, 9}, {5, 2, 1, 0, 0, 0, 9}, {4, 2, 1, 1, 0, 0, 9}, {4, 0, 1, 1, 0, 0, 9},
            {0, 0, 1, 1, 1, 1, 304}, {0, 1, 3, 1, 1, 1, 304}};
        x.confess(0);
        x.wash(0);
        x.sweep(1);
        x.boil();
        x.confess(1);
        for (int i = 5; i >= 0; i--) {
            state(x, states[i]);
            CHECK.due("undo() of " + i, x.undo(), i > 0);
        }
        for (int i = 0; i <= 5; i++) {
            state(x, states[i]);
            CHECK.due("redo() of " + i, x.redo(), i < 5);
        }
        // To and fro, then another ACT: what was taken back is gone, what was not can be taken back.
        x.undo();
        x.undo();
        x.redo();
        x.undo();
        state(x, states[3]);
        CHECK.due("sweep(0)", x.sweep(0), 4);
        CHECK.due("redo()", x.redo(), false);
        x.undo();
        state(x, states[3]);
        CHECK.due("redo()", x.redo(), true);
        state(x, 0, 0, 1, 1, 0, 0, 9);
        x.undo();
        x.undo();
        state(x, states[2]);
        // Each ACT by itself ends what can be redone.
        String text = "kind a;person p has a 5;person q has a 1;basin m wants a 1;";
        for (int act = 0; act < 4; act++) {
            SoapWorks y = told(text, 0);
            y.boil();
            y.undo();
            CHECK.due("about(10)", y.about(10), 1);
            int got = act == 0 ? y.confess(1) : act == 1 ? y.boil() : act == 2 ? y.wash(0) : y.sweep(0);
            CHECK.due("act " + act, got >= 0, true);
            CHECK.due("about(10) behind act " + act, y.about(10), 0);
            CHECK.due("about(9) behind act " + act, y.about(9), 2);
        }
    }

    private static void fortyAtMost() {
        for (int acts : new int[] {39, 40, 41, 42, 80, 100}) {
            SoapWorks x = CHECK.of("rises 0;draw 5;");
            for (int i = 0; i < acts; i++) x.boil();
            int seed = x.about(8);
            int kept = Math.min(40, acts);
            for (int i = 0; i < kept; i++) CHECK.due("undo() " + i + " of " + acts, x.undo(), true);
            CHECK.due("undo() of the oldest", x.undo(), false);
            CHECK.due("about(7)", x.about(7), acts - kept);
            for (int i = 0; i < kept; i++) CHECK.due("redo() " + i + " of " + acts, x.redo(), true);
            CHECK.due("redo() of no more", x.redo(), false);
            CHECK.due("about(7)", x.about(7), acts);
            CHECK.due("about(8)", x.about(8), seed);
        }
        // Full, ten taken back, one more done: 31 are kept, and all of these are the right ones.
        SoapWorks x = CHECK.of("rises 0;");
        for (int i = 0; i < 45; i++) x.boil();
        for (int i = 0; i < 10; i++) x.undo();
        x.boil();
        CHECK.due("about(9)", x.about(9), 31);
        for (int i = 0; i < 31; i++) {
            CHECK.due("about(7)", x.about(7), 36 - i);
            CHECK.due("undo()", x.undo(), true);
        }
        CHECK.due("undo()", x.undo(), false);
        CHECK.due("about(7)", x.about(7), 5);
    }
}
