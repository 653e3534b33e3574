/** What is SEEN and known at a TIME: promises 43 to 48. */
public final class SeenTest {
    private static final Check CHECK = new Check("SeenTest");
    private static final int[] FAR_OFF = {-1, 99, Integer.MIN_VALUE, Integer.MAX_VALUE};
    private static final int END = 100000;
    /** Not known is how much q has of a: there are 4 + h of a and 3 of b at first. */
    private static final String WORKS = "kind a;kind b;person p has a 4;person q has b 3 a 2;boils a b into b 3;rises 1;scum 100;";

    public static void main(String[] args) {
        fitsAreCounted();
        boilingsAreCounted();
        whatCantBeSeen();
        thirtyAtMost();
        timesAreTwo();
        timeGoesOn();
        theLastKindToldOfHim();
        theWorksAsTold();
        kindsAreAskedFor();
        withoutPeople();
        CHECK.close();
    }

    private static void known(SoapWorks x, int k, int many, int least, int greatest) {
        CHECK.due("fits(" + k + ")", x.fits(k), many);
        CHECK.due("sure(0, " + k + ")", x.sure(0, k), least);
        CHECK.due("sure(1, " + k + ")", x.sure(1, k), greatest);
    }

    private static void fitsAreCounted() {
        SoapWorks x = CHECK.of(WORKS);
        known(x, 0, 31, 0, 30);
        CHECK.due("seen", x.seen(0, 0, 10, true), 0);
        known(x, 0, 25, 6, 30);
        CHECK.due("seen", x.seen(0, 0, 15, false), 1);
        known(x, 0, 5, 6, 10);
        CHECK.due("seen of what is so anyhow", x.seen(0, 1, 3, true), 2);
        CHECK.due("seen of what is so anyhow", x.seen(12, 1, 999, false), 3);
        CHECK.due("seen of what is so anyhow", x.seen(0, 0, 0, true), 4);
        known(x, 0, 5, 6, 10);
        CHECK.due("sure(2, 0)", x.sure(2, 0), -1);
        for (int off : FAR_OFF) CHECK.due("sure(" + off + ", 0)", x.sure(off, 0), -1);
        CHECK.due("seen of what can't be", x.seen(0, 1, 4, true), 5);
        known(x, 0, 0, -1, -1);
        CHECK.due("ask(0, 0, 0)", x.ask(0, 0, 0), -1);
        CHECK.due("ask(0, 1, 0)", x.ask(0, 1, 0), -1);
        SoapWorks one = CHECK.of(WORKS);
        one.seen(0, 0, 34, true);
        known(one, 0, 1, 30, 30);
        SoapWorks none = CHECK.of(WORKS);
        none.seen(0, 0, 5, false);
        known(none, 0, 1, 0, 0);
        SoapWorks never = CHECK.of(WORKS);
        never.seen(0, 0, 0, false);
        known(never, 0, 0, -1, -1);
    }

    private static void boilingsAreCounted() {
        // In each BOILING 3 of a are lost, as long as there are so many: 4 + h - 3 n.
        for (int n = 0; n <= 12; n++) {
            SoapWorks x = CHECK.of(WORKS);
            x.seen(n, 0, 1, true);
            int least = Math.max(0, 3 * n + 1 - 4);
            known(x, 0, least > 30 ? 0 : 31 - least, least > 30 ? -1 : least, least > 30 ? -1 : 30);
        }
        SoapWorks between = CHECK.of(WORKS);
        between.seen(5, 0, 3, true);
        between.seen(6, 0, 3, false);
        // 4 + h - 15 at least 3, and 4 + h - 18 below 3.
        known(between, 0, 3, 14, 16);
    }

    private static void whatCantBeSeen() {
        SoapWorks x = CHECK.of(WORKS);
        for (int off : FAR_OFF) {
            CHECK.due("seen(" + off + ", ..)", x.seen(off, 0, 1, true), -1);
            CHECK.due("seen(0, " + off + ", ..)", x.seen(0, off, 1, true), -1);
        }
        CHECK.due("seen(13, ..)", x.seen(13, 0, 1, true), -1);
        CHECK.due("seen(0, 2, ..)", x.seen(0, 2, 1, true), -1);
        CHECK.due("seen(0, 0, -1)", x.seen(0, 0, -1, true), -1);
        CHECK.due("seen(0, 0, 1000)", x.seen(0, 0, 1000, true), -1);
        CHECK.due("about(11)", x.about(11), 0);
        CHECK.due("seen(12, 1, 0)", x.seen(12, 1, 0, true), 0);
        CHECK.due("seen(0, 0, 999)", x.seen(0, 0, 999, false), 1);
        CHECK.due("about(11)", x.about(11), 2);
        CHECK.due("untell(2)", x.untell(2), false);
        for (int off : FAR_OFF) CHECK.due("untell(" + off + ")", x.untell(off), false);
        CHECK.due("untell(1)", x.untell(1), true);
        CHECK.due("untell(1) again", x.untell(1), false);
        x.later(4);
        CHECK.due("untell(1) later", x.untell(1), false);
    }

    private static void thirtyAtMost() {
        SoapWorks x = CHECK.of(WORKS);
        for (int i = 0; i < 30; i++) CHECK.due("seen", x.seen(0, 0, i, true), i);
        CHECK.due("seen 31", x.seen(0, 0, 31, true), -1);
        known(x, 0, 6, 25, 30);
        x.untell(29);
        CHECK.due("seen: what is UNTOLD is one, too", x.seen(0, 0, 1, true), -1);
        CHECK.due("about(11)", x.about(11), 30);
        known(x, 0, 7, 24, 30);
    }

    private static void timesAreTwo() {
        SoapWorks x = CHECK.of(WORKS);
        x.later(2);
        x.seen(0, 0, 10, true);
        x.later(1);
        x.seen(0, 0, 20, false);
        x.later(2);
        CHECK.due("untell(0)", x.untell(0), true);
        x.later(1);
        x.seen(0, 0, 8, true);
        x.untell(2);
        int[][] due = {{-1, 31}, {0, 31}, {1, 31}, {2, 25}, {3, 10}, {4, 10}, {5, 16}, {6, 16}, {7, 16}, {END, 16},
            {Integer.MAX_VALUE, 16}, {Integer.MIN_VALUE, 31}};
        for (int[] at : due) CHECK.due("fits(" + at[0] + ")", x.fits(at[0]), at[1]);
        known(x, 4, 10, 6, 15);
        known(x, 5, 16, 0, 15);
        CHECK.due("ask(0, 1, 4)", x.ask(0, 1, 4), 1);
        CHECK.due("ask(12, 1, 1): 31 less what is left", x.ask(12, 1, 1), 31);
        // UNTOLD later, that is still known at the times between.
        CHECK.due("untell(1)", x.untell(1), true);
        CHECK.due("fits(5)", x.fits(5), 16);
        CHECK.due("fits(6)", x.fits(6), 31);
    }

    private static void timeGoesOn() {
        SoapWorks x = CHECK.of(WORKS);
        CHECK.due("later(0)", x.later(0), 0);
        CHECK.due("later(1001)", x.later(1001), -1);
        for (int off : new int[] {-1, Integer.MIN_VALUE, Integer.MAX_VALUE}) CHECK.due("later(" + off + ")", x.later(off), -1);
        CHECK.due("about(12)", x.about(12), 0);
        for (int i = 1; i <= 99; i++) CHECK.due("later(1000)", x.later(1000), i * 1000);
        CHECK.due("later(1)", x.later(1), 99001);
        CHECK.due("later(1000)", x.later(1000), -1);
        CHECK.due("about(12)", x.about(12), 99001);
        CHECK.due("later(999)", x.later(999), END);
        CHECK.due("later(1)", x.later(1), -1);
        CHECK.due("later(0)", x.later(0), END);
        Check.tell(x, WORKS);
        CHECK.due("about(12): the TIME stays", x.about(12), END);
        x.seen(0, 0, 10, true);
        CHECK.due("fits before", x.fits(END - 1), 31);
        CHECK.due("fits", x.fits(END), 25);
    }

    private static void theLastKindToldOfHim() {
        // The last told of the last one, whichever number it has; his others are known.
        SoapWorks x = CHECK.of("kind a;kind b;kind c;person p has c 1;person q has c 5 a 7 b 20;");
        x.seen(0, 1, 10, true);
        known(x, 0, 21, 10, 30);
        x.untell(0);
        x.seen(0, 0, 7, true);
        x.seen(0, 0, 8, false);
        x.seen(0, 2, 6, true);
        x.seen(0, 2, 7, false);
        known(x, 0, 31, 0, 30);
        SoapWorks first = CHECK.of("kind a;kind b;person p has b 20 a 1;basin m wants b 1;basin n wants a 3 b 4;");
        first.seen(0, 0, 4, true);
        known(first, 0, 27, 4, 30);
        // The last of the PEOPLE, not the last of whom anything else is told.
        SoapWorks lone = CHECK.of("kind a;person p has a 20;kind b;person q has b 1;");
        lone.seen(0, 0, 20, true);
        known(lone, 0, 31, 0, 30);
        lone.seen(0, 1, 3, false);
        known(lone, 0, 3, 0, 2);
    }

    private static void theWorksAsTold() {
        // Whatever is done since, and whatever rises or is lost as scum.
        SoapWorks x = CHECK.of("kind a;kind b;person p has a 4;person q has a 2;boils a a into b 1;rises 1;scum 100;");
        x.confess(0);
        x.boil();
        x.boil();
        x.seen(2, 0, 5, true);
        // 4 + h - 4 at least 5.
        known(x, 0, 26, 5, 30);
        x.sweep(0);
        x.undo();
        known(x, 0, 26, 5, 30);
    }

    private static void ask(SoapWorks x, int boilings, int k, int kind, int left) {
        CHECK.due("ask(" + boilings + ", 0, " + k + ")", x.ask(boilings, 0, k), kind);
        CHECK.due("ask(" + boilings + ", 1, " + k + ")", x.ask(boilings, 1, k), left);
    }

    private static void kindsAreAskedFor() {
        SoapWorks x = CHECK.of("kind b;kind a;person p has a 1;boils a a into b 9;");
        ask(x, 0, 0, 1, 1);
        // a: the even ones up to 18 leave 0, the odd ones up to 19 leave 1; b: 9 come of 18 and more.
        ask(x, 1, 0, 1, 10);
        x.seen(0, 1, 18, false);
        // b: two of each; a: nine of each.
        ask(x, 1, 0, 0, 2);
        x.later(1);
        x.seen(0, 1, 4, false);
        ask(x, 1, 1, 0, 2);
        ask(x, 0, 1, 1, 1);
        x.later(1);
        x.seen(1, 1, 1, true);
        // 1 and 3: by b they are told apart, by a not.
        CHECK.due("fits(2)", x.fits(2), 2);
        ask(x, 1, 2, 0, 1);
        ask(x, 0, 2, 1, 1);
        ask(x, 12, 2, 0, 1);
        CHECK.due("ask(13, 0, 2)", x.ask(13, 0, 2), -1);
        CHECK.due("ask(0, 2, 2)", x.ask(0, 2, 2), -1);
        for (int off : FAR_OFF) {
            CHECK.due("ask(" + off + ", 0, 2)", x.ask(off, 0, 2), -1);
            CHECK.due("ask(0, " + off + ", 2)", x.ask(0, off, 2), -1);
        }
        // Of like ones the first.
        SoapWorks like = CHECK.of("kind a;kind b;person p has b 9 a 1;boils a b into b 9;");
        ask(like, 0, 0, 0, 1);
        SoapWorks same = CHECK.of("kind a;kind b;kind c;person p has b 5 c 7;");
        ask(same, 3, 0, 2, 1);
        same.seen(0, 2, 30, true);
        ask(same, 3, 0, 0, 1);
    }

    private static void withoutPeople() {
        SoapWorks x = CHECK.of("kind a;kind b;boils a b into a 1;basin k wants a 3;");
        CHECK.due("seen", x.seen(0, 0, 0, true), -1);
        known(x, 0, 0, -1, -1);
        ask(x, 0, 0, -1, -1);
        CHECK.due("untell(0)", x.untell(0), false);
        SoapWorks y = CHECK.of(WORKS);
        CHECK.due("fits(0)", y.fits(0), 31);
        Check.tell(y, "kind a;");
        CHECK.due("fits(0)", y.fits(0), 0);
        Check.tell(y, "kind a;person p has a 1;");
        y.seen(0, 0, 7, true);
        CHECK.due("fits(0): of the new WORKS", y.fits(0), 24);
    }
}
