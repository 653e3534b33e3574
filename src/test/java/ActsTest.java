/** What is done, undone and gone on from: promises 10 to 15, 49, 50. */
public final class ActsTest {
    private static final Check CHECK = new Check("ActsTest");
    private static final int[] FAR_OFF = {-1, 7, 99, Integer.MIN_VALUE, Integer.MAX_VALUE};

    public static void main(String[] args) {
        theyConfess();
        rulesByWhatIsSoThen();
        alikeKinds();
        scumIsDrawn();
        itIsOutInTheStreet();
        allDaysAreGone();
        basinsWash();
        kindsAreSwept();
        actsAreUndone();
        fortyAreKept();
        whatIsNoAct();
        imagesAreGoneOnFrom();
        CHECK.close();
    }

    private static void theyConfess() {
        SoapWorks x = CHECK.of("kind a;kind b;person p has a 3;person q has b 4 a 20;");
        CHECK.due("confess(1)", x.confess(1), 24);
        CHECK.vat(x, 20, 4);
        CHECK.due("confess(1) again", x.confess(1), -1);
        CHECK.due("about(9)", x.about(9), 1);
        CHECK.due("confess(2)", x.confess(2), -1);
        for (int off : FAR_OFF) CHECK.due("confess(" + off + ")", x.confess(off), -1);
        CHECK.vat(x, 20, 4);
        CHECK.due("confess(0)", x.confess(0), 27);
        CHECK.vat(x, 23, 4);
        CHECK.due("about(4)", x.about(4), 3);
        CHECK.due("about(9)", x.about(9), 2);
        // As much as there can be: seven with 20 of each of five KINDS.
        StringBuilder text = new StringBuilder("kind a;kind b;kind c;kind d;kind e;rises 0;");
        for (char p = 'a'; p < 'h'; p++) text.append("person ").append(p).append(" has a 20 b 20 c 20 d 20 e 20;");
        SoapWorks full = CHECK.of(text.toString());
        for (int p = 0; p < 7; p++) CHECK.due("confess(" + p + ")", full.confess(p), (p + 1) * 100);
        CHECK.vat(full, 140, 140, 140, 140, 140);
        CHECK.due("about(4)", full.about(4), 127);
    }

    private static void rulesByWhatIsSoThen() {
        SoapWorks x = CHECK.of("kind a;kind b;kind c;kind d;person p has a 5 b 3;boils a b into c 2;boils c a into d 9;"
                + "boils d b into a 1;");
        x.confess(0);
        // 2 by its limit: 3 1 2 0; then 2 of c: 1 1 0 2; then 1 by its limit: 2 0 0 1.
        CHECK.due("boil()", x.boil(), 0);
        CHECK.vat(x, 2, 0, 0, 1);
        CHECK.due("boil()", x.boil(), 0);
        CHECK.vat(x, 2, 0, 0, 1);
        // What comes of an earlier RULE is there for a later one, not the other way round.
        SoapWorks y = CHECK.of("kind a;kind b;kind c;person p has a 4;boils b b into c 9;boils a a into b 9;");
        y.confess(0);
        y.boil();
        CHECK.vat(y, 0, 2, 0);
        y.boil();
        CHECK.vat(y, 0, 0, 1);
        // As there is of both: the lesser of them, be it the first or the second.
        SoapWorks z = CHECK.of("kind a;kind b;kind c;person p has a 2 b 7;boils a b into c 9;boils b a into c 9;");
        z.confess(0);
        z.boil();
        CHECK.vat(z, 0, 5, 2);
        SoapWorks w = CHECK.of("kind a;kind b;kind c;person p has a 2 b 7;boils b a into c 9;");
        w.confess(0);
        w.boil();
        CHECK.vat(w, 0, 5, 2);
    }

    private static void alikeKinds() {
        SoapWorks x = CHECK.of("kind a;kind b;person p has a 7;boils a a into b 9;");
        x.confess(0);
        x.boil();
        CHECK.vat(x, 1, 3);
        SoapWorks y = CHECK.of("kind a;person p has a 7;boils a a into a 2;");
        y.confess(0);
        y.boil();
        CHECK.vat(y, 5);
        y.boil();
        CHECK.vat(y, 3);
        y.boil();
        CHECK.vat(y, 2);
        y.boil();
        CHECK.vat(y, 1);
        y.boil();
        CHECK.vat(y, 1);
        // The third one may be one of them.
        SoapWorks z = CHECK.of("kind a;kind b;person p has a 7 b 4;boils a b into a 3;");
        z.confess(0);
        z.boil();
        CHECK.vat(z, 7, 1);
        SoapWorks w = CHECK.of("kind a;kind b;person p has a 2 b 4;boils a b into b 9;");
        w.confess(0);
        w.boil();
        CHECK.vat(w, 0, 4);
    }

    private static void scumIsDrawn() {
        // 9 becomes 304, 719, 574, 709, 204, 19, 674, 409, 104.
        int[] seeds = {304, 719, 574, 709, 204, 19, 674, 409, 104};
        SoapWorks x = CHECK.of("kind a;kind b;person p has a 20;scum 9;draw 9;rises 0;");
        x.confess(0);
        int much = 20;
        for (int seed : seeds) {
            x.boil();
            if (seed % 100 < 9) much--;
            CHECK.due("about(8)", x.about(8), seed);
            CHECK.vat(x, much, 0);
        }
        CHECK.due("lost in all: by 304, 204, 104", 20 - much, 3);
        // Its rest by 100 must be less: 4 is not less than 4.
        SoapWorks y = CHECK.of("kind a;person p has a 5;scum 4;draw 9;");
        y.confess(0);
        y.boil();
        CHECK.vat(y, 5);
        SoapWorks z = CHECK.of("kind a;person p has a 5;scum 5;draw 9;");
        z.confess(0);
        z.boil();
        CHECK.vat(z, 4);
        // 100: always; of each KIND; behind the RULES; not below 0.
        SoapWorks w = CHECK.of("kind a;kind b;kind c;person p has a 3 b 1;boils a b into c 9;scum 100;draw 0;");
        w.confess(0);
        w.boil();
        CHECK.vat(w, 1, 0, 0);
        CHECK.due("about(8)", w.about(8), 71);
        w.boil();
        CHECK.vat(w, 0, 0, 0);
        CHECK.due("about(8): 71 * 137 + 71", w.about(8), 798);
        // Without scum the SEED goes on, too.
        SoapWorks none = CHECK.of("kind a;person p has a 3;draw 9;");
        none.confess(0);
        none.boil();
        CHECK.vat(none, 3);
        CHECK.due("about(8)", none.about(8), 304);
        // Scum comes before it rises: 4 are left of 5, which is not above 4.
        SoapWorks before = CHECK.of("kind a;person p has a 5;scum 100;rises all>4;");
        before.confess(0);
        CHECK.due("boil()", before.boil(), 0);
    }

    private static void itIsOutInTheStreet() {
        SoapWorks x = CHECK.of("kind a;kind b;person p has a 5 b 2;person q has a 9;basin n wants a 1;rises day=2;draw 1;");
        x.confess(0);
        x.wash(0);
        CHECK.due("boil()", x.boil(), 0);
        CHECK.vat(x, 4, 2);
        CHECK.due("boil()", x.boil(), 1);
        CHECK.vat(x, 0, 0);
        CHECK.due("about(6)", x.about(6), 1);
        CHECK.due("about(7)", x.about(7), 2);
        CHECK.due("about(4): who has TOLD has", x.about(4), 1);
        CHECK.due("about(5): what is EASED is", x.about(5), 1);
        CHECK.due("confess(0)", x.confess(0), -1);
        CHECK.due("confess(1)", x.confess(1), 9);
        CHECK.due("boil()", x.boil(), 0);
        CHECK.vat(x, 9, 0);
        // By what is there behind the BOILING, not before it.
        SoapWorks y = CHECK.of("kind a;kind b;person p has a 6;boils a a into b 3;rises all>3;");
        y.confess(0);
        CHECK.due("boil()", y.boil(), 0);
        SoapWorks z = CHECK.of("kind a;kind b;person p has a 6;boils a a into b 3;rises all<4;");
        z.confess(0);
        CHECK.due("boil()", z.boil(), 1);
    }

    /** More calls than an object is used for; the limit is told all the same. */
    private static void allDaysAreGone() {
        SoapWorks x = CHECK.of("kind a;person p has a 5;rises 0;");
        for (int day = 1; day <= 999; day++) x.boil();
        CHECK.due("about(7)", x.about(7), 999);
        int seed = x.about(8);
        CHECK.due("boil()", x.boil(), -1);
        CHECK.due("about(7)", x.about(7), 999);
        CHECK.due("about(8)", x.about(8), seed);
        CHECK.due("undo()", x.undo(), true);
        CHECK.due("about(7)", x.about(7), 998);
        CHECK.due("boil()", x.boil(), 0);
        x.confess(0);
        CHECK.due("will(0, 60, 0) beyond the last day", x.will(0, 60, 0), 5);
    }

    private static void basinsWash() {
        SoapWorks x = CHECK.of("kind a;kind b;person p has a 5 b 2;basin m wants a 3 b 1;basin n wants b 2;"
                + "basin o wants a 3;basin q wants a 2;");
        CHECK.due("wash(0) too early", x.wash(0), -1);
        x.confess(0);
        CHECK.due("wash(4)", x.wash(4), -1);
        for (int off : FAR_OFF) CHECK.due("wash(" + off + ")", x.wash(off), -1);
        CHECK.due("wash(0)", x.wash(0), 3);
        CHECK.vat(x, 2, 1);
        CHECK.due("wash(0) again", x.wash(0), -1);
        CHECK.due("wash(1): there is 1 of 2", x.wash(1), -1);
        CHECK.due("wash(2): there is 2 of 3", x.wash(2), -1);
        CHECK.due("about(9)", x.about(9), 2);
        CHECK.vat(x, 2, 1);
        CHECK.due("wash(3): all there is", x.wash(3), 1);
        CHECK.vat(x, 0, 1);
        CHECK.due("about(5)", x.about(5), 0b1001);
        SoapWorks five = CHECK.of("kind a;kind b;kind c;kind d;kind e;person p has a 5 b 5 c 5 d 5 e 5;"
                + "basin m wants e 5 a 1;basin n wants a 4 b 5;basin o wants a 1;basin q wants c 2 d 3;");
        five.confess(0);
        CHECK.due("wash(0)", five.wash(0), 19);
        CHECK.vat(five, 4, 5, 5, 5, 0);
        CHECK.due("wash(3)", five.wash(3), 14);
        CHECK.vat(five, 4, 5, 3, 2, 0);
        // Enough of one KIND and not of the other.
        SoapWorks y = CHECK.of("kind a;kind b;person p has a 5 b 2;basin m wants a 3 b 3;basin n wants b 1 a 6;");
        y.confess(0);
        CHECK.due("wash(0)", y.wash(0), -1);
        CHECK.due("wash(1)", y.wash(1), -1);
    }

    private static void kindsAreSwept() {
        SoapWorks x = CHECK.of("kind a;kind b;person p has a 5 b 2;");
        CHECK.due("sweep(0) of nothing", x.sweep(0), -1);
        x.confess(0);
        CHECK.due("sweep(2)", x.sweep(2), -1);
        for (int off : FAR_OFF) CHECK.due("sweep(" + off + ")", x.sweep(off), -1);
        CHECK.due("about(9)", x.about(9), 1);
        CHECK.due("sweep(0)", x.sweep(0), 5);
        CHECK.vat(x, 0, 2);
        CHECK.due("sweep(0)", x.sweep(0), -1);
        CHECK.due("sweep(1)", x.sweep(1), 2);
        CHECK.vat(x, 0, 0);
        CHECK.due("about(9)", x.about(9), 3);
        CHECK.due("about(4)", x.about(4), 1);
    }

    private static void state(SoapWorks x, int... due) {
        int[] got = {x.vat(0), x.vat(1), x.about(4), x.about(5), x.about(6), x.about(7), x.about(8)};
        for (int i = 0; i < due.length; i++) CHECK.due("part " + i + " of the state", got[i], due[i]);
    }

    private static void actsAreUndone() {
        SoapWorks x = CHECK.of("kind a;kind b;person p has a 5 b 2;person q has b 1;basin m wants a 1;rises day=1;draw 9;");
        int[][] states = {{0, 0, 0, 0, 0, 0, 9}, {5, 2, 1, 0, 0, 0, 9}, {4, 2, 1, 1, 0, 0, 9}, {4, 0, 1, 1, 0, 0, 9},
            {0, 0, 1, 1, 1, 1, 304}, {0, 1, 3, 1, 1, 1, 304}};
        x.confess(0);
        x.wash(0);
        x.sweep(1);
        x.boil();
        x.confess(1);
        for (int round = 0; round < 2; round++) {
            for (int i = 5; i > 0; i--) {
                state(x, states[i]);
                CHECK.due("about(9)", x.about(9), i);
                CHECK.due("about(10)", x.about(10), 5 - i);
                CHECK.due("undo()", x.undo(), true);
            }
            state(x, states[0]);
            CHECK.due("undo() of nothing", x.undo(), false);
            for (int i = 1; i <= 5; i++) {
                CHECK.due("redo()", x.redo(), true);
                state(x, states[i]);
            }
            CHECK.due("redo() of nothing", x.redo(), false);
        }
        x.undo();
        x.undo();
        x.undo();
        state(x, states[2]);
        CHECK.due("redo()", x.redo(), true);
        state(x, states[3]);
        CHECK.due("another ACT", x.confess(1), 5);
        CHECK.due("about(10)", x.about(10), 0);
        CHECK.due("redo() behind another ACT", x.redo(), false);
        state(x, 4, 1, 3, 1, 0, 0, 9);
        CHECK.due("undo()", x.undo(), true);
        state(x, states[3]);
    }

    private static void fortyAreKept() {
        SoapWorks x = CHECK.of("rises 0;");
        for (int i = 0; i < 45; i++) x.boil();
        CHECK.due("about(9)", x.about(9), 40);
        for (int i = 0; i < 40; i++) CHECK.due("undo() " + i, x.undo(), true);
        CHECK.due("undo() 40", x.undo(), false);
        CHECK.due("about(7)", x.about(7), 5);
        CHECK.due("about(10)", x.about(10), 40);
        for (int i = 0; i < 40; i++) CHECK.due("redo() " + i, x.redo(), true);
        CHECK.due("redo() 40", x.redo(), false);
        CHECK.due("about(7)", x.about(7), 45);
        for (int i = 0; i < 3; i++) x.undo();
        x.boil();
        CHECK.due("about(9)", x.about(9), 38);
        CHECK.due("about(7)", x.about(7), 43);
        SoapWorks y = CHECK.of("rises 0;");
        for (int i = 0; i < 40; i++) y.boil();
        CHECK.due("about(9)", y.about(9), 40);
        for (int i = 0; i < 40; i++) y.undo();
        CHECK.due("about(7)", y.about(7), 0);
        CHECK.due("undo()", y.undo(), false);
    }

    private static void whatIsNoAct() {
        SoapWorks x = CHECK.of("kind a;person p has a 5;basin m wants a 6;rises 0;");
        x.confess(0);
        x.boil();
        x.undo();
        // What does nothing, or only looks, leaves what can be redone.
        x.confess(0);
        x.confess(1);
        x.wash(0);
        x.sweep(1);
        x.image(0);
        x.later(1);
        x.seen(0, 0, 1, true);
        x.untell(0);
        x.order(0);
        x.will(0, 5, 1);
        x.rise();
        x.rest();
        CHECK.due("about(9)", x.about(9), 1);
        CHECK.due("about(10)", x.about(10), 1);
        CHECK.due("redo()", x.redo(), true);
        CHECK.due("about(7)", x.about(7), 1);
    }

    private static void imagesAreGoneOnFrom() {
        SoapWorks x = CHECK.of("kind a;kind b;person p has a 5 b 2;person q has b 1;basin m wants a 1;rises day=1;draw 9;");
        for (int box = 0; box < 3; box++) CHECK.due("back(" + box + ") of nothing", x.back(box), -1);
        x.confess(0);
        x.wash(0);
        CHECK.due("image(0)", x.image(0), 0);
        x.boil();
        x.confess(1);
        CHECK.due("image(2)", x.image(2), 1);
        CHECK.due("image(3)", x.image(3), -1);
        for (int off : FAR_OFF) CHECK.due("image(" + off + ")", x.image(off), -1);
        for (int off : FAR_OFF) CHECK.due("back(" + off + ")", x.back(off), -1);
        CHECK.due("back(3)", x.back(3), -1);
        CHECK.due("back(1) of nothing", x.back(1), -1);
        x.boil();
        x.undo();
        CHECK.due("about(9) behind what did nothing", x.about(9), 4);
        CHECK.due("about(10)", x.about(10), 1);
        CHECK.due("back(0)", x.back(0), 0);
        state(x, 4, 2, 1, 1, 0, 0, 9);
        CHECK.due("about(9)", x.about(9), 0);
        CHECK.due("about(10)", x.about(10), 0);
        CHECK.due("undo()", x.undo(), false);
        CHECK.due("redo()", x.redo(), false);
        x.sweep(0);
        CHECK.due("back(2)", x.back(2), 1);
        state(x, 0, 1, 3, 1, 1, 1, 304);
        x.boil();
        CHECK.due("back(2): once more", x.back(2), 1);
        state(x, 0, 1, 3, 1, 1, 1, 304);
        CHECK.due("back(0)", x.back(0), 0);
        state(x, 4, 2, 1, 1, 0, 0, 9);
        CHECK.due("confess(1)", x.confess(1), 7);
        CHECK.due("image(0): in place of the old one", x.image(0), 0);
        x.boil();
        x.back(0);
        state(x, 4, 3, 3, 1, 0, 0, 9);
        // What lies there and what is SEEN are no part of an image.
        x.seen(0, 0, 1, true);
        x.order(0);
        x.later(3);
        x.back(2);
        CHECK.due("about(11)", x.about(11), 1);
        CHECK.due("about(12)", x.about(12), 3);
    }
}
