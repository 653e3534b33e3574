/** What is told: promises 6 to 9, 27, 28, 32, 33, 37, 51. */
public final class ToldTest {
    private static final Check CHECK = new Check("ToldTest");
    private static final int[] FAR_OFF = {-1, 99, Integer.MIN_VALUE, Integer.MAX_VALUE};
    private static final String WORKS = "kind a;kind b;kind c;kind d;kind e;"
            + "person p has b 7;person q has e 20 a 1;person r has b 2 c 3;"
            + "boils a b into c 1;boils c c into d 9;boils d a into c 4;"
            + "basin x wants c 5 a 6;basin y wants d 20;rises all>100;scum 45;draw 321;";

    public static void main(String[] args) {
        vatHolds();
        mindsAreTold();
        basinsWant();
        rulesAreTold();
        kindsCome();
        stepsAreCounted();
        sinnersAndInertAndMakers();
        aboutTells();
        CHECK.close();
    }

    private static void row(String name, int[] got, int... want) {
        for (int i = 0; i < want.length; i++) CHECK.due(name + "(.., " + i + ")", got[i], want[i]);
    }

    private static void vatHolds() {
        SoapWorks x = CHECK.of(WORKS);
        CHECK.vat(x, 0, 0, 0, 0, 0);
        x.confess(1);
        CHECK.vat(x, 1, 0, 0, 0, 20);
        x.confess(2);
        CHECK.vat(x, 1, 2, 3, 0, 20);
        CHECK.due("vat(5)", x.vat(5), -1);
        for (int kind : FAR_OFF) CHECK.due("vat(" + kind + ")", x.vat(kind), -1);
        SoapWorks one = CHECK.of("kind a;");
        CHECK.due("vat(0)", one.vat(0), 0);
        CHECK.due("vat(1)", one.vat(1), -1);
    }

    private static void mindsAreTold() {
        SoapWorks x = CHECK.of(WORKS);
        for (int told = 0; told < 2; told++) {
            row("mind", new int[] {x.mind(0, 0), x.mind(0, 1), x.mind(0, 2), x.mind(0, 3), x.mind(0, 4)}, 0, 7, 0, 0, 0);
            row("mind", new int[] {x.mind(1, 0), x.mind(1, 1), x.mind(1, 2), x.mind(1, 3), x.mind(1, 4)}, 1, 0, 0, 0, 20);
            row("mind", new int[] {x.mind(2, 0), x.mind(2, 1), x.mind(2, 2), x.mind(2, 3), x.mind(2, 4)}, 0, 2, 3, 0, 0);
            x.confess(0);
            x.confess(1);
        }
        CHECK.due("mind(3, 0)", x.mind(3, 0), -1);
        CHECK.due("mind(0, 5)", x.mind(0, 5), -1);
        for (int off : FAR_OFF) {
            CHECK.due("mind(" + off + ", 0)", x.mind(off, 0), -1);
            CHECK.due("mind(0, " + off + ")", x.mind(0, off), -1);
        }
    }

    private static void basinsWant() {
        SoapWorks x = CHECK.of(WORKS);
        row("wants", new int[] {x.wants(0, 0), x.wants(0, 1), x.wants(0, 2), x.wants(0, 3), x.wants(0, 4)}, 6, 0, 5, 0, 0);
        row("wants", new int[] {x.wants(1, 0), x.wants(1, 1), x.wants(1, 2), x.wants(1, 3), x.wants(1, 4)}, 0, 0, 0, 20, 0);
        CHECK.due("wants(2, 0)", x.wants(2, 0), -1);
        CHECK.due("wants(0, 5)", x.wants(0, 5), -1);
        for (int off : FAR_OFF) {
            CHECK.due("wants(" + off + ", 0)", x.wants(off, 0), -1);
            CHECK.due("wants(0, " + off + ")", x.wants(0, off), -1);
        }
        SoapWorks eased = CHECK.of("kind a;person p has a 2;basin x wants a 1;");
        eased.confess(0);
        eased.wash(0);
        CHECK.due("wants of an EASED one", eased.wants(0, 0), 1);
    }

    private static void rulesAreTold() {
        SoapWorks x = CHECK.of(WORKS);
        row("rule(0", new int[] {x.rule(0, 0), x.rule(0, 1), x.rule(0, 2), x.rule(0, 3)}, 0, 1, 2, 1);
        row("rule(1", new int[] {x.rule(1, 0), x.rule(1, 1), x.rule(1, 2), x.rule(1, 3)}, 2, 2, 3, 9);
        row("rule(2", new int[] {x.rule(2, 0), x.rule(2, 1), x.rule(2, 2), x.rule(2, 3)}, 3, 0, 2, 4);
        CHECK.due("rule(3, 0)", x.rule(3, 0), -1);
        CHECK.due("rule(0, 4)", x.rule(0, 4), -1);
        for (int off : FAR_OFF) {
            CHECK.due("rule(" + off + ", 0)", x.rule(off, 0), -1);
            CHECK.due("rule(0, " + off + ")", x.rule(0, off), -1);
        }
    }

    private static void kindsCome() {
        SoapWorks x = CHECK.of(WORKS);
        // a, b -> c -> d -> c; of a also c by the third RULE.
        CHECK.due("comes(0)", x.comes(0), 0b01100);
        CHECK.due("comes(1)", x.comes(1), 0b01100);
        CHECK.due("comes(2): itself, as it comes of d", x.comes(2), 0b01100);
        CHECK.due("comes(3)", x.comes(3), 0b01100);
        CHECK.due("comes(4)", x.comes(4), 0);
        CHECK.due("comes(5)", x.comes(5), -1);
        for (int off : FAR_OFF) CHECK.due("comes(" + off + ")", x.comes(off), -1);
        // A chain through all five, told from its end on.
        SoapWorks chain = CHECK.of("kind a;kind b;kind c;kind d;kind e;boils d d into e 1;boils c c into d 1;"
                + "boils b b into c 1;boils a a into b 1;");
        CHECK.due("comes(0)", chain.comes(0), 0b11110);
        CHECK.due("comes(1)", chain.comes(1), 0b11100);
        CHECK.due("comes(3)", chain.comes(3), 0b10000);
        CHECK.due("comes(4)", chain.comes(4), 0);
        SoapWorks ring = CHECK.of("kind a;kind b;kind c;kind d;kind e;boils d d into e 1;boils c c into d 1;"
                + "boils b b into c 1;boils a a into b 1;boils e e into a 1;");
        for (int kind = 0; kind < 5; kind++) CHECK.due("comes(" + kind + ")", ring.comes(kind), 0b11111);
        SoapWorks self = CHECK.of("kind a;kind b;boils a b into a 1;");
        CHECK.due("comes(0)", self.comes(0), 0b01);
        CHECK.due("comes(1)", self.comes(1), 0b01);
    }

    private static void stepsAreCounted() {
        SoapWorks x = CHECK.of(WORKS);
        CHECK.due("steps(0, 0)", x.steps(0, 0), 0);
        CHECK.due("steps(4, 4): nothing comes of it", x.steps(4, 4), 0);
        CHECK.due("steps(0, 2)", x.steps(0, 2), 1);
        CHECK.due("steps(1, 3)", x.steps(1, 3), 2);
        CHECK.due("steps(3, 2)", x.steps(3, 2), 1);
        CHECK.due("steps(2, 0)", x.steps(2, 0), -1);
        CHECK.due("steps(0, 4)", x.steps(0, 4), -1);
        CHECK.due("steps(0, 5)", x.steps(0, 5), -1);
        CHECK.due("steps(5, 5)", x.steps(5, 5), -1);
        for (int off : FAR_OFF) {
            CHECK.due("steps(" + off + ", 0)", x.steps(off, 0), -1);
            CHECK.due("steps(0, " + off + ")", x.steps(0, off), -1);
            CHECK.due("steps(" + off + ", " + off + ")", x.steps(off, off), -1);
        }
        SoapWorks chain = CHECK.of("kind a;kind b;kind c;kind d;kind e;boils a a into b 1;boils b b into c 1;"
                + "boils c c into d 1;boils d d into e 1;");
        CHECK.due("steps(0, 4)", chain.steps(0, 4), 4);
        CHECK.due("steps(0, 3)", chain.steps(0, 3), 3);
        CHECK.due("steps(4, 0)", chain.steps(4, 0), -1);
        SoapWorks shortcut = CHECK.of("kind a;kind b;kind c;boils a a into b 1;boils b b into c 1;boils b a into c 1;");
        CHECK.due("steps(0, 2) by the third RULE", shortcut.steps(0, 2), 1);
    }

    private static void sinnersAndInertAndMakers() {
        SoapWorks x = CHECK.of(WORKS);
        CHECK.due("sinners(0)", x.sinners(0), 0b010);
        CHECK.due("sinners(1)", x.sinners(1), 0b101);
        CHECK.due("sinners(2)", x.sinners(2), 0b100);
        CHECK.due("sinners(3)", x.sinners(3), 0);
        CHECK.due("sinners(4)", x.sinners(4), 0b010);
        x.confess(0);
        CHECK.due("sinners(1): also who has TOLD", x.sinners(1), 0b101);
        CHECK.due("inert()", x.inert(), 0b10000);
        CHECK.due("makers(0)", x.makers(0), 0);
        CHECK.due("makers(2)", x.makers(2), 0b101);
        CHECK.due("makers(3)", x.makers(3), 0b010);
        CHECK.due("sinners(5)", x.sinners(5), -1);
        CHECK.due("makers(5)", x.makers(5), -1);
        for (int off : FAR_OFF) {
            CHECK.due("sinners(" + off + ")", x.sinners(off), -1);
            CHECK.due("makers(" + off + ")", x.makers(off), -1);
        }
        CHECK.due("inert() without RULES", CHECK.of("kind a;kind b;kind c;").inert(), 0b111);
        CHECK.due("inert() by the first", CHECK.of("kind a;kind b;kind c;kind d;boils d b into b 1;").inert(), 0b0101);
        CHECK.due("inert() by the second", CHECK.of("kind a;kind b;kind c;kind d;boils b c into b 1;").inert(), 0b1001);
        CHECK.due("inert() by the third", CHECK.of("kind a;kind b;kind c;kind d;boils b b into a 1;").inert(), 0b1100);
        String seven = "kind a;";
        for (char name = 'a'; name < 'h'; name++) seven += "person " + name + " has a 1;";
        CHECK.due("sinners of seven", CHECK.of(seven).sinners(0), 127);
    }

    private static void aboutTells() {
        SoapWorks x = CHECK.of(WORKS);
        int[] due = {3, 5, 3, 2, 0, 0, 0, 0, 321, 0, 0, 0, 0, 0, 2, 0, 45};
        for (int what = 0; what < due.length; what++) CHECK.due("about(" + what + ")", x.about(what), due[what]);
        CHECK.due("about(17)", x.about(17), -1);
        for (int off : FAR_OFF) CHECK.due("about(" + off + ")", x.about(off), -1);
        x.confess(2);
        x.confess(0);
        CHECK.due("about(4)", x.about(4), 0b101);
        CHECK.due("about(9)", x.about(9), 2);
        x.undo();
        CHECK.due("about(4)", x.about(4), 0b100);
        CHECK.due("about(9)", x.about(9), 1);
        CHECK.due("about(10)", x.about(10), 1);
        x.boil();
        CHECK.due("about(7)", x.about(7), 1);
        CHECK.due("about(8): 321 * 137 + 71", x.about(8), 48);
        CHECK.due("about(10)", x.about(10), 0);
        x.later(9);
        CHECK.due("about(12)", x.about(12), 9);
        x.seen(0, 0, 1, true);
        x.seen(0, 0, 1, true);
        x.untell(0);
        CHECK.due("about(11): also what is UNTOLD", x.about(11), 2);
        x.feed(1, 2, 3, 4, 5);
        CHECK.due("about(13)", x.about(13), 20);
        x.order(0);
        CHECK.due("about(15)", x.about(15), 3);
        SoapWorks basins = CHECK.of("kind a;person p has a 9;basin x wants a 1;basin y wants a 2;basin z wants a 20;"
                + "rises day>1;");
        basins.confess(0);
        basins.wash(1);
        CHECK.due("about(5)", basins.about(5), 0b010);
        basins.wash(0);
        CHECK.due("about(5)", basins.about(5), 0b011);
        basins.boil();
        CHECK.due("about(6)", basins.about(6), 0);
        basins.boil();
        basins.boil();
        CHECK.due("about(6)", basins.about(6), 2);
    }
}
