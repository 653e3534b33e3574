import java.io.IOException;
import java.util.function.Supplier;
import java.util.function.ToIntFunction;

/** The edges of what lies ahead: promises 16 to 42, and Terms, part 3, a test for each sentence. */
public final class AheadEdgesTest {
    private static final Check CHECK = new Check("AheadEdgesTest");
    private static final int[] FAR_OFF = {Integer.MIN_VALUE, Integer.MIN_VALUE + 1, -2, -1, 101, Integer.MAX_VALUE};
    private static final String FIVE = "kind a;kind b;kind c;kind d;kind e;";
    private static final String FOUR = "kind a;person p has a 3;person q has a 5;person r has a 5;person s has a 4;";
    /** Of a, 2 go in each BOILING, till there is 1 of it or none. */
    private static final String SLOW = "kind a;kind b;boils a a into b 1;rises 0;"
            + "person f has a 20;person g has a 20;person h has a 20;person i has a 20;person j has a 20;person k has a 20;";
    private static final int[] SIX = {0, 1, 2, 3, 4, 5};
    private static final int[] SEVEN = {0, 1, 2, 3, 4, 5, 6};

    private final Edges edges;

    private AheadEdgesTest() throws IOException {
        edges = new Edges(CHECK);
    }

    public static void main(String[] args) throws IOException {
        AheadEdgesTest test = new AheadEdgesTest();
        test.byWhatIsNow();
        test.rising();
        test.basins();
        test.rulesAndKinds();
        test.duelling();
        test.telling();
        test.odds();
        test.edges.covers(16, 42);
        CHECK.close();
    }

    private void terms(String sentence, Runnable test) {
        edges.edge("Terms", sentence, test);
    }

    private static SoapWorks told(String text, int... who) {
        SoapWorks x = CHECK.of(text);
        for (int person : who) x.confess(person);
        return x;
    }

    /** Seven who have so much of a each. */
    private static String people(int... much) {
        StringBuilder text = new StringBuilder("kind a;");
        for (int p = 0; p < much.length; p++) text.append("person ").append((char) ('p' + p)).append(" has a ").append(much[p]).append(';');
        return text.toString();
    }

    private static final String BUSY = "kind a;kind b;person p has a 9;person q has b 3;person r has a 2 b 2;person s has b 1;boils a b into a 2;"
            + "boils b b into a 1;basin k wants a 3;basin l wants b 2;rises all+day>12;scum 70;draw 8;";

    private static SoapWorks busy() {
        SoapWorks x = told(BUSY, 0, 3);
        x.boil();
        x.image(0);
        x.seen(1, 0, 4, true);
        x.confess(1);
        x.undo();
        return x;
    }

    private void asks(String call, ToIntFunction<SoapWorks> calling, int want) {
        edges.doesNothing(AheadEdgesTest::busy, call, calling, want);
    }

    // ---- all of it

    private void byWhatIsNow() {
        terms("(By what is now; nothing is done; no scum, if not told otherwise;", this::nothingIsDone);
        terms("what lies ahead goes on beyond day 999, too", AheadEdgesTest::beyondTheLastDay);
        terms("in it it is out in the street as told, if not told otherwise.)", AheadEdgesTest::inTheStreet);
        String will = "Promise 16: will";
        edges.edge(will, "How much of a KIND there is behind n BOILINGS (0 .. 60)", AheadEdgesTest::behindSoMany);
        edges.edge(will, "scum as the SEED tells (what 1), none (0)", AheadEdgesTest::asTheSeedTells);
        edges.edge(will, "NONE if one can't be.", this::willIsRefused);
    }

    /** Here a is 8, b is 0, day 1: the SEED is 167 then, and the scum of 70 took one of each. */
    private void nothingIsDone() {
        CHECK.vat(busy(), 8, 0);
        asks("will(0, 1, 0)", x -> x.will(0, 1, 0), 8);
        asks("will(0, 1, 1)", x -> x.will(0, 1, 1), 7);
        asks("rise()", x -> x.rise(), 4);
        asks("rouser(0)", x -> x.rouser(0), 2);
        asks("choir(1, 1)", x -> x.choir(1, 1), 6);
        asks("power(1)", x -> x.power(1), 1);
        asks("serve(1)", x -> x.serve(1), 1);
        asks("balm(1, 1)", x -> x.balm(1, 1), 2);
        asks("cook(0)", x -> x.cook(0), 0);
        asks("lacks(1)", x -> x.lacks(1), 2);
        asks("rest()", x -> x.rest(), 0);
        asks("comes(1)", x -> x.comes(1), 1);
        asks("steps(1, 0)", x -> x.steps(1, 0), 1);
        asks("nearest()", x -> x.nearest(), 0);
        asks("wanted(1)", x -> x.wanted(1), 2);
        asks("sinners(1)", x -> x.sinners(1), 14);
        asks("inert()", x -> x.inert(), 0);
        asks("alive()", x -> x.alive(), 0);
        asks("thickest()", x -> x.thickest(), 0);
        asks("thinnest()", x -> x.thinnest(), 1);
        asks("makers(0)", x -> x.makers(0), 3);
        asks("heaviest()", x -> x.heaviest(), 2);
        asks("law(2)", x -> x.law(2), 8);
        asks("mission()", x -> x.mission(), 15);
        asks("odds(1, 0)", x -> x.odds(1, 0), 3);
        asks("lies(0)", x -> x.lies(0), -2);
        asks("fits(0)", x -> x.fits(0), busy().fits(0));
        asks("sure(1, 0)", x -> x.sure(1, 0), 30);
        asks("ask(0, 0, 0)", x -> x.ask(0, 0, 0), 1);
        // These put numbers there, and do nothing else.
        for (int call = 0; call < 2; call++) {
            SoapWorks x = busy();
            SoapWorks twin = busy();
            int got = call == 0 ? x.order(0) : x.duel(1, 2);
            CHECK.due("order(0), duel(1, 2)", got, call == 0 ? 8 : 2);
            for (int what = 0; what <= 14; what++) CHECK.due("about(" + what + ")", x.about(what), twin.about(what));
            CHECK.vat(x, 8, 0);
            CHECK.due("redo()", x.redo(), true);
        }
    }

    /** These are more calls than an object is used for; what is told of it is kept all the same. */
    private static void beyondTheLastDay() {
        SoapWorks x = told("kind a;person p has a 5;person q has a 1;basin b wants a 6;rises day>1020 or tellers>1;", 0);
        for (int i = 0; i < 999; i++) x.boil();
        CHECK.due("boil()", x.boil(), -1);
        CHECK.due("rise()", x.rise(), 22);
        CHECK.due("will(0, 21, 0)", x.will(0, 21, 0), 5);
        CHECK.due("will(0, 22, 0)", x.will(0, 22, 0), 0);
        CHECK.due("rouser(1)", x.rouser(1), 1);
        CHECK.due("choir(21, 0)", x.choir(21, 0), 1);
        CHECK.due("choir(22, 0)", x.choir(22, 0), 0);
        CHECK.due("power(1)", x.power(1), 1);
    }

    private static void inTheStreet() {
        String street = "kind a;kind b;person p has a 20;boils a a into b 2;basin x wants b 3;basin y wants b 4;basin z wants b 5;";
        SoapWorks x = told(street + "rises day=3;", 0);
        int[] due = {0, 2, 4, 0, 0};
        for (int n = 0; n < due.length; n++) CHECK.due("will(1, " + n + ", 0)", x.will(1, n, 0), due[n]);
        CHECK.due("cook(0)", x.cook(0), 2);
        CHECK.due("cook(1)", x.cook(1), 2);
        CHECK.due("cook(2): it is gone by then", x.cook(2), -1);
        // Told otherwise: REST, ORDER, law.
        SoapWorks always = told(street + "rises 1;", 0);
        CHECK.due("rest()", always.rest(), 5);
        CHECK.due("order(1)", always.order(1), 2);
        CHECK.due("law(3)", always.law(3), 17);
        CHECK.due("will(0, 1, 0)", always.will(0, 1, 0), 0);
        CHECK.due("will(0, 0, 0): none was there", always.will(0, 0, 0), 20);
        // It goes on behind the street: the day does.
        SoapWorks again = told("kind a;person p has a 5;rises day=1 or day=4;", 0);
        CHECK.due("will(0, 1, 0)", again.will(0, 1, 0), 0);
        CHECK.due("will(0, 60, 0)", again.will(0, 60, 0), 0);
    }

    private static void behindSoMany() {
        SoapWorks x = told(SLOW + "person l has a 3;", SEVEN);
        for (int n = 0; n <= 60; n++) {
            CHECK.due("will(0, " + n + ", 0)", x.will(0, n, 0), 123 - 2 * n);
            CHECK.due("will(1, " + n + ", 0)", x.will(1, n, 0), n);
        }
    }

    private static void asTheSeedTells() {
        SoapWorks x = told("kind a;kind b;person p has a 20 b 1;rises 0;scum 40;draw 77;", 0);
        int seed = 77;
        int much = 20;
        for (int n = 0; n <= 60; n++) {
            CHECK.due("will(0, " + n + ", 1)", x.will(0, n, 1), much);
            CHECK.due("will(0, " + n + ", 0)", x.will(0, n, 0), 20);
            CHECK.due("will(1, " + n + ", 1)", x.will(1, n, 1), much < 20 ? 0 : 1);
            seed = (seed * 137 + 71) % 1000;
            if (seed % 100 < 40 && much > 0) much--;
        }
        // By the SEED as it is now.
        x.boil();
        int then = x.will(0, 9, 1);
        for (int i = 0; i < 9; i++) x.boil();
        CHECK.due("vat(0) when it has come", x.vat(0), then);
    }

    private void willIsRefused() {
        edges.refused(AheadEdgesTest::busy, "will(2, 1, 0)", x -> x.will(2, 1, 0));
        edges.refused(AheadEdgesTest::busy, "will(0, 61, 0)", x -> x.will(0, 61, 0));
        edges.refused(AheadEdgesTest::busy, "will(0, 1, 2)", x -> x.will(0, 1, 2));
        for (int off : FAR_OFF) {
            edges.refused(AheadEdgesTest::busy, "will(" + off + ", 1, 0)", x -> x.will(off, 1, 0));
            edges.refused(AheadEdgesTest::busy, "will(0, " + off + ", 0)", x -> x.will(0, off, 0));
            edges.refused(AheadEdgesTest::busy, "will(0, 1, " + off + ")", x -> x.will(0, 1, off));
        }
        CHECK.due("will(0, 0, 0) without KINDS", new SoapWorks().will(0, 0, 0), -1);
    }

    // ---- promises 17 to 20

    private void rising() {
        terms("RISE: behind how many BOILINGS it is RISEN first.", AheadEdgesTest::risenFirst);
        edges.edge("Promise 17: rise", "RISE (1 .. 60); NONE if not in these.", AheadEdgesTest::riseInSixty);
        terms("ROUSER: the one who has not TOLD by whose telling now RISE is soonest; of like ones the first.", AheadEdgesTest::soonest);
        edges.edge("Promise 18: rouser", "NONE if by none it is in 60, or for another what.", this::noRouser);
        terms("CHOIR for n: the fewest who have not TOLD by whose telling now RISE is within n BOILINGS; of like ones the least set as bits.",
                AheadEdgesTest::theFewest);
        edges.edge("Promise 19: choir", "CHOIR (n 1 .. 30) what 0: how many, 1: who, as bits", AheadEdgesTest::withinSoMany);
        edges.edge("Promise 19: choir", "NONE if by none, or one can't be.", this::noChoir);
        terms("POWER of one who has not TOLD: in how many sets of the others who have not TOLD it is not RISEN behind the next BOILING,"
                + " were these to tell now, and would be, were he to tell, too.", AheadEdgesTest::inHowManySets);
        edges.edge("Promise 20: power", "NONE if he has TOLD, or there is none such.", this::noPower);
    }

    private static void risenFirst() {
        SoapWorks x = CHECK.of("rises day=3 or day=5;");
        int[] due = {3, 2, 1, 2, 1, -1};
        for (int i = 0; i < due.length; i++) {
            CHECK.due("rise() on day " + i, x.rise(), due[i]);
            x.boil();
        }
        // What is RISEN now counts for nothing, what is behind the next BOILING does.
        CHECK.due("rise()", told("kind a;person p has a 9;boils a a into a 9;rises all>8;", 0).rise(), -1);
        CHECK.due("rise()", told("kind a;person p has a 9;boils a a into a 9;rises all=5;", 0).rise(), 1);
        CHECK.due("rise()", told("kind a;person p has a 9;boils a a into a 9;rises all=1;", 0).rise(), 4);
        CHECK.due("rise()", told("kind a;person p has a 9;boils a a into a 9;rises all=4;", 0).rise(), -1);
        // No scum.
        CHECK.due("rise()", told("kind a;person p has a 9;scum 100;rises all=9;", 0).rise(), 1);
        CHECK.due("rise()", told("kind a;person p has a 9;scum 100;rises all=8;", 0).rise(), -1);
    }

    private static void riseInSixty() {
        CHECK.due("rise()", CHECK.of("rises day=1;").rise(), 1);
        CHECK.due("rise()", CHECK.of("rises day=59;").rise(), 59);
        CHECK.due("rise()", CHECK.of("rises day=60;").rise(), 60);
        CHECK.due("rise()", CHECK.of("rises day=61;").rise(), -1);
        CHECK.due("rise()", CHECK.of("rises day=0;").rise(), -1);
        SoapWorks far = told(SLOW.replace("rises 0;", "rises least=60;"), SIX);
        CHECK.due("rise() when least never is 60", far.rise(), -1);
        CHECK.due("rise()", told(SLOW.replace("rises 0;", "rises all=60;"), SIX).rise(), 60);
        CHECK.due("rise()", told(SLOW.replace("rises 0;", "rises all=61;") + "person l has a 2;", SEVEN).rise(), -1);
        CHECK.due("rise()", told(SLOW.replace("rises 0;", "rises all=62;") + "person l has a 2;", SEVEN).rise(), 60);
        CHECK.due("rise() of a new one", new SoapWorks().rise(), -1);
    }

    private static void rouser(SoapWorks x, int who, int rise) {
        CHECK.due("rouser(0)", x.rouser(0), who);
        CHECK.due("rouser(1)", x.rouser(1), rise);
    }

    private static void soonest() {
        rouser(CHECK.of(people(3, 5, 5) + "rises all+day>10;"), 1, 6);
        rouser(CHECK.of(people(5, 3, 5) + "rises all+day>10;"), 0, 6);
        rouser(CHECK.of(people(3, 3, 4) + "rises all+day>10;"), 2, 7);
        rouser(told(people(3, 5, 5) + "rises all+day>10;", 1), 2, 1);
        rouser(told(people(3, 5, 5) + "rises all+day>10;", 1, 2), 0, 1);
        // Also one by whose telling it is later than without.
        rouser(CHECK.of(people(3, 1, 2) + "rises day>all*2;"), 1, 3);
        CHECK.due("rise() without", CHECK.of(people(3, 1, 2) + "rises day>all*2;").rise(), 1);
        rouser(CHECK.of(people(1, 1, 1, 1, 1, 1, 2) + "rises all=2;"), 6, 1);
    }

    private void noRouser() {
        rouser(CHECK.of(FOUR + "rises tellers=1 and day>59;"), 0, 60);
        rouser(CHECK.of(FOUR + "rises tellers=1 and day>60;"), -1, -1);
        rouser(CHECK.of(FOUR + "rises tellers>1;"), -1, -1);
        rouser(told(FOUR + "rises 1;", 0, 1, 2, 3), -1, -1);
        rouser(told(FOUR + "rises 1;", 0, 1, 2), 3, 1);
        rouser(CHECK.of("rises 1;"), -1, -1);
        rouser(new SoapWorks(), -1, -1);
        edges.refused(AheadEdgesTest::busy, "rouser(2)", x -> x.rouser(2));
        for (int off : FAR_OFF) edges.refused(AheadEdgesTest::busy, "rouser(" + off + ")", x -> x.rouser(off));
    }

    private static void choir(SoapWorks x, int n, int many, int who) {
        CHECK.due("choir(" + n + ", 0)", x.choir(n, 0), many);
        CHECK.due("choir(" + n + ", 1)", x.choir(n, 1), who);
    }

    private static void theFewest() {
        choir(CHECK.of(FOUR + "rises all>9;"), 1, 2, 0b0110);
        choir(CHECK.of(FOUR + "rises all>7;"), 1, 2, 0b0011);
        choir(CHECK.of(FOUR + "rises all=9;"), 1, 2, 0b1010);
        choir(CHECK.of(FOUR + "rises all=4;"), 1, 1, 0b1000);
        choir(CHECK.of(FOUR + "rises all>16;"), 1, 4, 0b1111);
        choir(CHECK.of(people(1, 1, 1, 1, 1, 1, 1) + "rises all>6;"), 1, 7, 127);
        choir(CHECK.of(people(1, 1, 1, 1, 1, 1, 3) + "rises all=3;"), 1, 1, 64);
        choir(CHECK.of(people(1, 1, 1, 1, 1, 1, 1) + "rises all=6;"), 1, 6, 63);
        // Who has TOLD is none of them.
        choir(told(FOUR + "rises all>9;", 1), 1, 1, 0b0100);
        choir(told(FOUR + "rises all>9;", 0, 3), 1, 1, 0b0010);
        // Nobody is needed.
        choir(told(FOUR + "rises all>9;", 1, 2), 1, 0, 0);
        choir(CHECK.of("rises 1;"), 1, 0, 0);
    }

    private static void withinSoMany() {
        for (int n = 1; n <= 30; n++) {
            choir(CHECK.of(FOUR + "rises tellers=2 and day>" + (n - 1) + ";"), n, 2, 3);
            choir(CHECK.of(FOUR + "rises tellers=2 and day>" + n + ";"), n, -1, -1);
        }
        SoapWorks x = CHECK.of(FOUR + "rises all+day>12;");
        int[][] due = {{1, 3, 7}, {2, 3, 7}, {3, 2, 6}, {4, 2, 6}, {5, 2, 3}, {7, 2, 3}, {8, 1, 2}, {9, 1, 2}, {10, 1, 1}, {12, 1, 1}, {13, 0, 0}, {30, 0, 0}};
        for (int[] row : due) choir(x, row[0], row[1], row[2]);
    }

    private void noChoir() {
        choir(CHECK.of(FOUR + "rises all>17;"), 30, -1, -1);
        choir(CHECK.of(FOUR + "rises all=1;"), 30, -1, -1);
        choir(told(FOUR + "rises tellers=5;", 0, 1, 2, 3), 1, -1, -1);
        choir(new SoapWorks(), 1, -1, -1);
        edges.refused(AheadEdgesTest::busy, "choir(0, 0)", x -> x.choir(0, 0));
        edges.refused(AheadEdgesTest::busy, "choir(31, 0)", x -> x.choir(31, 0));
        edges.refused(AheadEdgesTest::busy, "choir(31, 1)", x -> x.choir(31, 1));
        edges.refused(AheadEdgesTest::busy, "choir(30, 2)", x -> x.choir(30, 2));
        for (int off : FAR_OFF) {
            edges.refused(AheadEdgesTest::busy, "choir(" + off + ", 0)", x -> x.choir(off, 0));
            edges.refused(AheadEdgesTest::busy, "choir(30, " + off + ")", x -> x.choir(30, off));
        }
    }

    private static void powers(SoapWorks x, int... due) {
        for (int person = 0; person < due.length; person++) CHECK.due("power(" + person + ")", x.power(person), due[person]);
    }

    private static void inHowManySets() {
        powers(CHECK.of(people(20, 1, 1, 1, 1, 1, 1) + "rises all>19;"), 64, 0, 0, 0, 0, 0, 0);
        powers(CHECK.of(people(1, 1, 1, 1, 1, 1, 1) + "rises all>3;"), 20, 20, 20, 20, 20, 20, 20);
        powers(CHECK.of(people(1, 1, 1, 1, 1, 1, 1) + "rises all>6;"), 1, 1, 1, 1, 1, 1, 1);
        powers(CHECK.of(people(1, 1, 1, 1, 1, 1, 1) + "rises all>0;"), 1, 1, 1, 1, 1, 1, 1);
        powers(CHECK.of(FOUR + "rises all>9;"), 2, 4, 4, 2);
        powers(CHECK.of(FOUR + "rises 1;"), 0, 0, 0, 0);
        powers(CHECK.of(FOUR + "rises 0;"), 0, 0, 0, 0);
        // By one too many it is not RISEN any more: only who makes it so counts.
        powers(CHECK.of(FOUR + "rises all=5;"), 0, 1, 1, 0);
        powers(CHECK.of(FOUR + "rises tellers<4;"), 0, 0, 0, 0);
        // The others who have not TOLD are fewer then.
        powers(told(FOUR + "rises tellers>1;", 1), 1, -1, 1, 1);
        powers(told(FOUR + "rises tellers>2;", 1), 2, -1, 2, 2);
        powers(told(FOUR + "rises tellers>3;", 0, 1, 2), -1, -1, -1, 1);
        // Behind the next BOILING, not now and not later.
        powers(CHECK.of(FOUR + "boils a a into a 9;rises all>4;"), 0, 4, 4, 4);
        powers(CHECK.of(FOUR + "rises day>1;"), 0, 0, 0, 0);
        powers(CHECK.of("kind a;person p has a 1;rises tellers;"), 1);
    }

    private void noPower() {
        edges.refused(AheadEdgesTest::busy, "power(0) of one who has TOLD", x -> x.power(0));
        edges.refused(AheadEdgesTest::busy, "power(4)", x -> x.power(4));
        for (int off : FAR_OFF) edges.refused(AheadEdgesTest::busy, "power(" + off + ")", x -> x.power(off));
        CHECK.due("power(0) without PEOPLE", new SoapWorks().power(0), -1);
    }

    // ---- promises 21 to 24, 30 and 31

    private void basins() {
        terms("SERVE: the most BASINS not EASED that could wash now, one behind the other; of like ones the least set as bits.",
                AheadEdgesTest::theMostBasins);
        edges.edge("Promise 21: serve", "NONE for another what.", this::noServe);
        terms("BALM of a BASIN: the fewest who have not TOLD by whose telling now (no BOILING) the VAT holds what it wants;"
                + " of like ones the least set as bits.", AheadEdgesTest::theFewestForIt);
        edges.edge("Promise 22: balm", "BALM what 0: how many (0: it holds it), 1: who, as bits", AheadEdgesTest::itHoldsIt);
        edges.edge("Promise 22: balm", "NONE if by none, or one can't be.", this::noBalm);
        terms("COOK of a BASIN: behind how many BOILINGS the VAT holds what it wants first.", AheadEdgesTest::heldFirst);
        edges.edge("Promise 23: cook", "COOK (0 .. 60); NONE if not in these, or there is none such.", this::noCook);
        edges.edge("Promise 24: lacks", "How much a BASIN lacks now, of all KINDS together", AheadEdgesTest::lackedTogether);
        edges.edge("Promise 24: lacks", "NONE if there is none such.", this::noLack);
        edges.edge("Promise 30: nearest", "The BASIN not EASED that lacks least, of all KINDS together; of like ones the first; NONE if all are.",
                AheadEdgesTest::theNearest);
        edges.edge("Promise 31: wanted", "How much of a KIND all BASINS not EASED want, together", AheadEdgesTest::wantedTogether);
        edges.edge("Promise 31: wanted", "NONE if there is none such.", this::noWanted);
    }

    private static void serve(SoapWorks x, int many, int which) {
        CHECK.due("serve(0)", x.serve(0), many);
        CHECK.due("serve(1)", x.serve(1), which);
    }

    private static void theMostBasins() {
        serve(new SoapWorks(), 0, 0);
        serve(told("kind a;person p has a 3;", 0), 0, 0);
        String four = "basin k wants a 1;basin l wants a 2;basin m wants a 3;basin n wants a 4;";
        int[][] due = {{1, 1, 1}, {2, 1, 1}, {3, 2, 3}, {5, 2, 3}, {6, 3, 7}, {9, 3, 7}, {10, 4, 15}};
        for (int[] row : due) serve(told("kind a;person p has a " + row[0] + ";" + four, 0), row[1], row[2]);
        serve(CHECK.of("kind a;person p has a 20;" + four), 0, 0);
        // Of like ones the least set, which need not have the first.
        serve(told("kind a;person p has a 4;basin k wants a 3;basin l wants a 2;basin m wants a 2;basin n wants a 2;", 0), 2, 0b0110);
        serve(told("kind a;person p has a 3;basin k wants a 4;basin l wants a 3;basin m wants a 3;", 0), 1, 0b0010);
        serve(told("kind a;person p has a 3;basin k wants a 4;basin l wants a 4;basin m wants a 4;basin n wants a 3;", 0), 1, 0b1000);
        // Not EASED.
        SoapWorks x = told("kind a;person p has a 10;" + four, 0);
        x.wash(0);
        serve(x, 3, 0b1110);
        x.wash(2);
        serve(x, 2, 0b1010);
        x.wash(1);
        x.wash(3);
        serve(x, 0, 0);
        String five = FIVE + "person p has a 2 b 2 c 2 d 2 e 2;basin k wants a 1 b 1 c 1 d 1 e 1;basin l wants e 2;basin m wants d 2;"
                + "basin n wants a 1 e 1;";
        serve(told(five, 0), 2, 0b0110);
        serve(told(FIVE + "person p has a 2 b 2 c 2 d 2 e 3;" + five.substring(five.indexOf("basin")), 0), 3, 0b1110);
        // Of each KIND: enough of the one is not enough.
        serve(told("kind a;kind b;person p has a 20 b 1;basin k wants a 1 b 1;basin l wants b 1;basin m wants a 20;", 0), 2, 0b0110);
    }

    private void noServe() {
        edges.refused(AheadEdgesTest::busy, "serve(2)", x -> x.serve(2));
        for (int off : FAR_OFF) edges.refused(AheadEdgesTest::busy, "serve(" + off + ")", x -> x.serve(off));
    }

    private static void balm(SoapWorks x, int basin, int many, int who) {
        CHECK.due("balm(" + basin + ", 0)", x.balm(basin, 0), many);
        CHECK.due("balm(" + basin + ", 1)", x.balm(basin, 1), who);
    }

    private static void theFewestForIt() {
        String people = "kind a;kind b;person p has a 3;person q has a 1;person r has b 2;person s has a 4 b 1;person t has b 1;";
        SoapWorks x = CHECK.of(people + "basin k wants a 4 b 2;basin l wants a 8;basin m wants b 1;basin n wants a 5;");
        balm(x, 0, 2, 0b01100);
        balm(x, 1, 3, 0b01011);
        balm(x, 2, 1, 0b00100);
        balm(x, 3, 2, 0b01001);
        x.confess(3);
        balm(x, 0, 1, 0b00100);
        balm(x, 1, 2, 0b00011);
        balm(x, 3, 1, 0b00001);
        balm(CHECK.of(people(1, 1, 1, 1, 1, 1, 1) + "basin k wants a 7;basin l wants a 6;basin m wants a 1;"), 0, 7, 127);
        balm(CHECK.of(people(1, 1, 1, 1, 1, 1, 1) + "basin k wants a 7;basin l wants a 6;basin m wants a 1;"), 1, 6, 63);
        balm(CHECK.of(people(1, 1, 1, 1, 1, 1, 2) + "basin k wants a 2;"), 0, 1, 64);
        // No BOILING, whatever RULES and rises tell.
        String boiling = "kind a;kind b;person p has a 2;boils a a into b 1;basin k wants b 1;basin l wants a 2;rises 1;";
        balm(CHECK.of(boiling), 0, -1, -1);
        balm(CHECK.of(boiling), 1, 1, 1);
    }

    private static void itHoldsIt() {
        SoapWorks x = told("kind a;kind b;person p has a 3 b 1;person q has a 1;basin k wants a 3 b 1;basin l wants a 4;basin m wants b 2;", 0);
        balm(x, 0, 0, 0);
        balm(x, 1, 1, 2);
        x.confess(1);
        balm(x, 1, 0, 0);
        // An EASED one, too.
        x.wash(0);
        balm(x, 0, -1, -1);
        SoapWorks twice = told("kind a;person p has a 6;basin k wants a 3;", 0);
        twice.wash(0);
        balm(twice, 0, 0, 0);
    }

    private void noBalm() {
        SoapWorks x = CHECK.of(people(3, 4) + "basin k wants a 7;basin l wants a 8;");
        balm(x, 0, 2, 3);
        balm(x, 1, -1, -1);
        x.confess(0);
        x.sweep(0);
        balm(x, 0, -1, -1);
        balm(x, 2, -1, -1);
        balm(CHECK.of("kind a;basin k wants a 1;"), 0, -1, -1);
        balm(new SoapWorks(), 0, -1, -1);
        edges.refused(AheadEdgesTest::busy, "balm(2, 0)", y -> y.balm(2, 0));
        edges.refused(AheadEdgesTest::busy, "balm(0, 2)", y -> y.balm(0, 2));
        for (int off : FAR_OFF) {
            edges.refused(AheadEdgesTest::busy, "balm(" + off + ", 0)", y -> y.balm(off, 0));
            edges.refused(AheadEdgesTest::busy, "balm(0, " + off + ")", y -> y.balm(0, off));
        }
    }

    private static void heldFirst() {
        // b is 0 2 4 0 ..; held on the second day alone, and not later.
        String text = "kind a;kind b;kind c;person p has a 10;boils b b into c 9;boils a a into b 2;basin k wants b 2;basin l wants c 1;"
                + "basin m wants a 10;basin n wants c 3;rises 0;";
        SoapWorks x = told(text, 0);
        int[] due = {1, 2, 0, -1};
        for (int b = 0; b < 4; b++) CHECK.due("cook(" + b + ")", x.cook(b), due[b]);
        SoapWorks scum = told("kind a;person p has a 3;scum 100;basin k wants a 3;basin l wants a 4;", 0);
        CHECK.due("cook(0)", scum.cook(0), 0);
        CHECK.due("cook(1)", scum.cook(1), -1);
        scum.wash(0);
        CHECK.due("cook(0) of an EASED one", scum.cook(0), -1);
        // No scum, though it would take what comes.
        CHECK.due("cook(0)", told("kind a;kind b;person p has a 4;scum 100;boils a a into b 1;basin k wants b 2;rises 0;", 0).cook(0), 2);
    }

    private void noCook() {
        String chain = "kind a;kind b;kind c;kind d;boils a a into b 1;boils b b into c 1;boils c c into d 1;rises 0;"
                + "person f has a 20;person g has a 20;person h has a 20;person i has a 20;person j has a 20;person k has a 20;person l has a 20;"
                + "basin x wants d 15;basin y wants d 16;";
        SoapWorks x = told(chain, SEVEN);
        CHECK.due("cook(0)", x.cook(0), 60);
        CHECK.due("cook(1)", x.cook(1), -1);
        x.boil();
        CHECK.due("cook(0) a day later", x.cook(0), 59);
        for (int i = 0; i < 3; i++) x.boil();
        CHECK.due("cook(1) four days later", x.cook(1), 60);
        edges.refused(AheadEdgesTest::busy, "cook(2)", y -> y.cook(2));
        for (int off : FAR_OFF) edges.refused(AheadEdgesTest::busy, "cook(" + off + ")", y -> y.cook(off));
        CHECK.due("cook(0) without BASINS", new SoapWorks().cook(0), -1);
    }

    private static void lackedTogether() {
        SoapWorks x = CHECK.of(FIVE + "person p has a 5 b 3;basin k wants a 5 b 3;basin l wants a 6 b 3;basin m wants a 4 b 4;"
                + "basin n wants a 20 b 20 c 20 d 20 e 20;");
        int[][] due = {{8, 0}, {9, 1}, {8, 1}, {100, 92}};
        for (int b = 0; b < 4; b++) CHECK.due("lacks(" + b + ") of none", x.lacks(b), due[b][0]);
        x.confess(0);
        for (int b = 0; b < 4; b++) CHECK.due("lacks(" + b + ")", x.lacks(b), due[b][1]);
        x.wash(0);
        CHECK.due("lacks(0) of an EASED one", x.lacks(0), 8);
    }

    private void noLack() {
        edges.refused(AheadEdgesTest::busy, "lacks(2)", x -> x.lacks(2));
        for (int off : FAR_OFF) edges.refused(AheadEdgesTest::busy, "lacks(" + off + ")", x -> x.lacks(off));
        CHECK.due("lacks(0) without BASINS", new SoapWorks().lacks(0), -1);
    }

    private static void theNearest() {
        CHECK.due("nearest() without BASINS", CHECK.of("kind a;").nearest(), -1);
        SoapWorks x = told("kind a;kind b;person p has a 9 b 1;basin k wants b 3;basin l wants a 4;basin m wants a 5;basin n wants a 10 b 2;", 0);
        CHECK.due("nearest()", x.nearest(), 1);
        x.wash(1);
        CHECK.due("nearest()", x.nearest(), 2);
        x.wash(2);
        CHECK.due("nearest(): 2, and 10 and 1", x.nearest(), 0);
        SoapWorks like = CHECK.of("kind a;kind b;basin k wants a 2 b 2;basin l wants b 3;basin m wants a 3;basin n wants a 2 b 1;");
        CHECK.due("nearest() of like ones", like.nearest(), 1);
        SoapWorks all = told("kind a;person p has a 2;basin k wants a 1;basin l wants a 1;", 0);
        CHECK.due("nearest()", all.nearest(), 0);
        all.wash(0);
        CHECK.due("nearest()", all.nearest(), 1);
        all.wash(1);
        CHECK.due("nearest() when all are", all.nearest(), -1);
        all.undo();
        CHECK.due("nearest() behind undo()", all.nearest(), 1);
    }

    private static void wantedTogether() {
        SoapWorks x = told("kind a;kind b;kind c;person p has a 9 b 9;basin k wants a 1;basin l wants a 2 b 5;basin m wants a 20;basin n wants b 20;", 0);
        int[][] due = {{23, 25, 0}, {21, 20, 0}};
        for (int kind = 0; kind < 3; kind++) CHECK.due("wanted(" + kind + ")", x.wanted(kind), due[0][kind]);
        x.wash(1);
        for (int kind = 0; kind < 3; kind++) CHECK.due("wanted(" + kind + ")", x.wanted(kind), due[1][kind]);
        x.wash(0);
        CHECK.due("wanted(0)", x.wanted(0), 20);
        CHECK.due("wanted(0) without BASINS", CHECK.of("kind a;").wanted(0), 0);
        SoapWorks all = told("kind a;person p has a 2;basin k wants a 1;basin l wants a 1;", 0);
        all.wash(0);
        all.wash(1);
        CHECK.due("wanted(0) when all are", all.wanted(0), 0);
    }

    private void noWanted() {
        edges.refused(AheadEdgesTest::busy, "wanted(2)", x -> x.wanted(2));
        for (int off : FAR_OFF) edges.refused(AheadEdgesTest::busy, "wanted(" + off + ")", x -> x.wanted(off));
        CHECK.due("wanted(0) without KINDS", new SoapWorks().wanted(0), -1);
    }

    // ---- promises 25 to 28, 33 to 37, 39, 42

    private void rulesAndKinds() {
        terms("REST: behind how many BOILINGS (it is not out in the street in these) the next one changes nothing in the VAT.",
                AheadEdgesTest::changesNothing);
        edges.edge("Promise 25: rest", "REST (0 .. 60); NONE if not in these.", AheadEdgesTest::restInSixty);
        terms("ORDER for a KIND: the order of RULES by which most of it is there behind one BOILING (it is not out in the street);"
                + " of like ones the first (by numbers).", AheadEdgesTest::theBestOrder);
        edges.edge("Promise 26: order", "NONE if there is none such. RULES lie there then, in order (behind NONE: nothing).", this::noOrder);
        terms("COMES: KINDS that can come of a KIND, RULE by RULE (of its first or second KIND its third one, however often; itself not, but so).",
                AheadEdgesTest::canCome);
        edges.edge("Promise 27: comes", "NONE if there is none such.", this::noComes);
        terms("STEPS from a KIND to another one: the fewest RULES so.", AheadEdgesTest::theFewestRules);
        edges.edge("Promise 28: steps", "STEPS (0: both are one); NONE if it can't come, or one can't be.", this::noSteps);
        edges.edge("Promise 33: inert", "KINDS that no RULE has, as bits.", AheadEdgesTest::noRuleHas);
        edges.edge("Promise 34: alive", "RULES by which something would change now, each by itself, as bits.", AheadEdgesTest::eachByItself);
        edges.edge("Promise 35: thickest", "of like ones the first; NONE without KINDS.", AheadEdgesTest::theThickest);
        edges.edge("Promise 36: thinnest", "of like ones the first; NONE without KINDS.", AheadEdgesTest::theThinnest);
        edges.edge("Promise 37: makers", "RULES whose third KIND it is, as bits; NONE if there is none such.", this::whoMakesIt);
        edges.edge("Promise 39: law", "(it is not out in the street), if each RULE told n (0 .. 99)", AheadEdgesTest::ifEachTold);
        edges.edge("Promise 39: law", "NONE for another n.", this::noLaw);
        edges.edge("Promise 42: lies", "The i-th number of what lies there; -2 if there is none such.", AheadEdgesTest::whatLiesThere);
    }

    private static void changesNothing() {
        CHECK.due("rest() of a new one", new SoapWorks().rest(), 0);
        CHECK.due("rest() without RULES", told(FOUR, 0).rest(), 0);
        String rule = "kind a;kind b;boils a a into b 2;rises 1;scum 100;person p has a ";
        int[][] due = {{1, 0}, {2, 1}, {3, 1}, {4, 1}, {5, 1}, {6, 2}, {8, 2}, {9, 2}, {10, 3}, {20, 5}};
        for (int[] row : due) CHECK.due("rest() of " + row[0], told(rule + row[0] + ";", 0).rest(), row[1]);
        // Into itself it grows less, too.
        CHECK.due("rest()", told("kind a;kind b;person p has a 3 b 4;boils a b into a 1;", 0).rest(), 4);
        CHECK.due("rest()", told("kind a;person p has a 4;boils a a into a 1;", 0).rest(), 3);
        CHECK.due("rest()", CHECK.of(rule + "20;").rest(), 0);
    }

    private static void restInSixty() {
        CHECK.due("rest() of 118", told(SLOW + "person l has a 18;", 0, 1, 2, 3, 4, 6).rest(), 59);
        CHECK.due("rest() of 120", told(SLOW, SIX).rest(), 60);
        CHECK.due("rest() of 121", told(SLOW + "person l has a 1;", SEVEN).rest(), 60);
        CHECK.due("rest() of 122", told(SLOW + "person l has a 2;", SEVEN).rest(), -1);
        SoapWorks later = told(SLOW + "person l has a 2;", SEVEN);
        later.boil();
        CHECK.due("rest() of 122 a day later", later.rest(), 60);
    }

    private static void order(SoapWorks x, int kind, int much, int... lies) {
        CHECK.due("order(" + kind + ")", x.order(kind), much);
        CHECK.lies(x, lies);
    }

    private static void theBestOrder() {
        SoapWorks two = told("kind a;kind b;kind c;kind d;person p has a 4 c 3;boils a a into b 9;boils b c into d 9;rises 1;scum 100;", 0);
        order(two, 3, 2, 0, 1);
        order(two, 1, 2, 1, 0);
        order(two, 0, 0, 0, 1);
        order(two, 2, 3, 1, 0);
        SoapWorks three = told("kind a;kind b;kind c;kind d;person p has a 8;boils c c into d 9;boils b b into c 9;boils a a into b 9;", 0);
        order(three, 3, 1, 2, 1, 0);
        order(three, 2, 2, 0, 2, 1);
        order(three, 1, 4, 0, 1, 2);
        SoapWorks chain = told(FIVE + "person p has a 16 b 1;boils d d into e 9;boils c c into d 9;boils b b into c 9;boils a a into b 9;"
                + "boils a b into a 1;boils e e into a 1;", 0);
        order(chain, 4, 1, 3, 2, 1, 0, 4, 5);
        order(chain, 3, 2, 0, 3, 2, 1, 4, 5);
        order(chain, 2, 4, 0, 1, 3, 2, 4, 5);
        order(chain, 1, 9, 0, 1, 2, 3, 4, 5);
        order(chain, 0, 0, 0, 1, 2, 3, 4, 5);
        everyOrderIsTried();
        // The very last of all orders.
        SoapWorks six = told(FIVE + "rises 0;person p has a 5 b 2 c 5 d 6 e 4;boils e e into c 4;boils b e into d 3;boils a a into b 4;"
                + "boils d c into a 4;boils c b into d 4;boils d d into b 2;", 0);
        order(six, 3, 8, 5, 4, 3, 2, 1, 0);
        // Of like ones the first: nothing is there, or nothing depends on it.
        order(CHECK.of(FIVE + "boils a a into b 1;".repeat(6)), 0, 0, 0, 1, 2, 3, 4, 5);
        order(told("kind a;kind b;person p has a 20;" + "boils a a into b 1;".repeat(6), 0), 1, 6, 0, 1, 2, 3, 4, 5);
        order(told("kind a;kind b;person p has a 20;boils a a into b 1;", 0), 1, 1, 0);
        // Without RULES nothing lies there.
        order(told("kind a;person p has a 7;", 0), 0, 7);
    }

    /** Each order of four RULES is the only best one by some text. */
    private static void everyOrderIsTried() {
        int[] order = new int[4];
        for (int code = 0; code < 256; code++) {
            int seen = 0;
            for (int i = 0; i < 4; i++) {
                order[i] = code >> 2 * i & 3;
                seen |= 1 << order[i];
            }
            if (seen != 15) continue;
            // The RULE that is to come i-th turns the i-th KIND into the next one: only so do all of them turn.
            String[] rules = new String[4];
            for (int i = 0; i < 4; i++) rules[order[i]] = "boils " + (char) ('a' + i) + " " + (char) ('a' + i) + " into " + (char) ('b' + i) + " 9;";
            SoapWorks x = told(FIVE + "person p has a 16;" + rules[0] + rules[1] + rules[2] + rules[3], 0);
            order(x, 4, 1, order[0], order[1], order[2], order[3]);
        }
    }

    private void noOrder() {
        SoapWorks x = told("kind a;kind b;person p has a 4;boils a a into b 9;boils b b into a 1;", 0);
        for (int off : new int[] {2, -1, 5, 99, Integer.MIN_VALUE, Integer.MAX_VALUE}) {
            order(x, 1, 2, 1, 0);
            order(x, off, -1);
        }
        order(x, 1, 2, 1, 0);
        order(new SoapWorks(), 0, -1);
        for (int off : FAR_OFF) edges.refused(AheadEdgesTest::busy, "order(" + off + ")", y -> y.order(off));
        order(told(FIVE + "person p has e 3;boils a b into e 1;", 0), 4, 3, 0);
        order(told(FIVE + "person p has e 3;boils a b into e 1;", 0), 5, -1);
    }

    private static void comes(SoapWorks x, int... due) {
        for (int kind = 0; kind < due.length; kind++) CHECK.due("comes(" + kind + ")", x.comes(kind), due[kind]);
    }

    private static void canCome() {
        comes(CHECK.of(FIVE), 0, 0, 0, 0, 0, -1);
        comes(CHECK.of(FIVE + "boils a b into c 1;"), 4, 4, 0, 0, 0);
        comes(CHECK.of(FIVE + "boils a b into a 1;"), 1, 1, 0, 0, 0);
        comes(CHECK.of(FIVE + "boils a a into a 1;"), 1, 0, 0, 0, 0);
        // A chain through all of them, told from its end on, and a ring.
        String chain = FIVE + "boils d d into e 1;boils c c into d 1;boils b b into c 1;boils a a into b 1;";
        comes(CHECK.of(chain), 0b11110, 0b11100, 0b11000, 0b10000, 0);
        comes(CHECK.of(chain + "boils e e into a 1;"), 31, 31, 31, 31, 31);
        // By what is told, not by what is there; and however little there would be of it.
        comes(told(chain + "person p has e 1;", 0), 0b11110, 0b11100, 0b11000, 0b10000, 0);
        comes(CHECK.of(FIVE + "boils a e into b 1;boils c b into d 1;boils d e into a 1;"), 0b01011, 0b01011, 0b01011, 0b01011, 0b01011);
    }

    private void noComes() {
        edges.refused(AheadEdgesTest::busy, "comes(2)", x -> x.comes(2));
        for (int off : FAR_OFF) edges.refused(AheadEdgesTest::busy, "comes(" + off + ")", x -> x.comes(off));
        CHECK.due("comes(0) without KINDS", new SoapWorks().comes(0), -1);
        CHECK.due("comes(5) of five", CHECK.of(FIVE).comes(5), -1);
    }

    private static void steps(SoapWorks x, int[][] due) {
        for (int kind = 0; kind < due.length; kind++) {
            for (int other = 0; other < due.length; other++) {
                CHECK.due("steps(" + kind + ", " + other + ")", x.steps(kind, other), due[kind][other]);
            }
        }
    }

    private static void theFewestRules() {
        String chain = FIVE + "boils d d into e 1;boils c c into d 1;boils b b into c 1;boils a a into b 1;";
        steps(CHECK.of(chain), new int[][] {{0, 1, 2, 3, 4}, {-1, 0, 1, 2, 3}, {-1, -1, 0, 1, 2}, {-1, -1, -1, 0, 1}, {-1, -1, -1, -1, 0}});
        steps(CHECK.of(chain + "boils e e into a 1;"),
                new int[][] {{0, 1, 2, 3, 4}, {4, 0, 1, 2, 3}, {3, 4, 0, 1, 2}, {2, 3, 4, 0, 1}, {1, 2, 3, 4, 0}});
        // A shorter way, by a second KIND, told last.
        steps(CHECK.of(chain + "boils e a into d 1;"),
                new int[][] {{0, 1, 2, 1, 2}, {-1, 0, 1, 2, 3}, {-1, -1, 0, 1, 2}, {-1, -1, -1, 0, 1}, {-1, -1, -1, 1, 0}});
    }

    private void noSteps() {
        SoapWorks x = CHECK.of("kind a;kind b;boils a a into a 1;");
        CHECK.due("steps(0, 0)", x.steps(0, 0), 0);
        CHECK.due("steps(1, 1): it can't come, but both are one", x.steps(1, 1), 0);
        CHECK.due("steps(0, 1)", x.steps(0, 1), -1);
        edges.refused(AheadEdgesTest::busy, "steps(2, 0)", y -> y.steps(2, 0));
        edges.refused(AheadEdgesTest::busy, "steps(0, 2)", y -> y.steps(0, 2));
        edges.refused(AheadEdgesTest::busy, "steps(2, 2)", y -> y.steps(2, 2));
        for (int off : FAR_OFF) {
            edges.refused(AheadEdgesTest::busy, "steps(" + off + ", 0)", y -> y.steps(off, 0));
            edges.refused(AheadEdgesTest::busy, "steps(0, " + off + ")", y -> y.steps(0, off));
            edges.refused(AheadEdgesTest::busy, "steps(" + off + ", " + off + ")", y -> y.steps(off, off));
        }
        CHECK.due("steps(0, 0) without KINDS", new SoapWorks().steps(0, 0), -1);
    }

    private static void noRuleHas() {
        CHECK.due("inert() without KINDS", new SoapWorks().inert(), 0);
        CHECK.due("inert() without RULES", CHECK.of(FIVE).inert(), 31);
        CHECK.due("inert()", CHECK.of(FIVE + "boils b c into d 1;").inert(), 0b10001);
        CHECK.due("inert()", CHECK.of(FIVE + "boils e b into c 1;").inert(), 0b01001);
        CHECK.due("inert()", CHECK.of(FIVE + "boils a a into a 1;").inert(), 0b11110);
        CHECK.due("inert()", CHECK.of(FIVE + "boils a a into b 1;").inert(), 0b11100);
        CHECK.due("inert()", CHECK.of(FIVE + "boils a b into b 1;").inert(), 0b11100);
        CHECK.due("inert()", CHECK.of(FIVE + "boils a b into a 1;").inert(), 0b11100);
        CHECK.due("inert()", CHECK.of(FIVE + "boils e e into e 1;").inert(), 0b01111);
        CHECK.due("inert()", CHECK.of(FIVE + "boils a b into c 1;boils d d into e 1;").inert(), 0);
        CHECK.due("inert() of one told behind the RULE", CHECK.of("kind a;boils a a into a 1;kind b;").inert(), 2);
    }

    private static void eachByItself() {
        String rules = "kind a;kind b;kind c;person p has a 1;person q has b 2;boils a a into b 9;boils a b into c 1;boils b b into b 1;"
                + "boils c b into a 9;boils b a into a 9;";
        CHECK.due("alive() without RULES", told(FOUR, 0).alive(), 0);
        CHECK.due("alive() of none", CHECK.of(rules).alive(), 0);
        CHECK.due("alive() of 1", told(rules, 0).alive(), 0);
        CHECK.due("alive() of 2", told(rules, 1).alive(), 0b00100);
        CHECK.due("alive() of both", told(rules, 0, 1).alive(), 0b10110);
        CHECK.due("alive() of six", told("kind a;person p has a 2;" + "boils a a into a 1;".repeat(6), 0).alive(), 63);
        CHECK.due("alive() of six", told("kind a;person p has a 1;" + "boils a a into a 1;".repeat(6), 0).alive(), 0);
    }

    private static void theThickest() {
        CHECK.due("thickest() without KINDS", new SoapWorks().thickest(), -1);
        CHECK.due("thickest() of none", CHECK.of(FIVE).thickest(), 0);
        int[][] due = {{1, 1, 1, 1, 1, 0}, {1, 2, 2, 1, 2, 1}, {1, 1, 1, 1, 2, 4}, {3, 2, 1, 1, 3, 0}};
        for (int[] row : due) CHECK.due("thickest()", told(FIVE + mind(row), 0).thickest(), row[5]);
    }

    private static void theThinnest() {
        CHECK.due("thinnest() without KINDS", new SoapWorks().thinnest(), -1);
        CHECK.due("thinnest() of none", CHECK.of(FIVE).thinnest(), 0);
        int[][] due = {{1, 1, 1, 1, 1, 0}, {2, 1, 1, 2, 1, 1}, {2, 2, 2, 2, 1, 4}, {1, 2, 3, 3, 1, 0}};
        for (int[] row : due) CHECK.due("thinnest()", told(FIVE + mind(row), 0).thinnest(), row[5]);
        CHECK.due("thinnest(): there is none of b", told("kind a;kind b;person p has a 1;", 0).thinnest(), 1);
    }

    private static String mind(int[] row) {
        return "person p has a " + row[0] + " b " + row[1] + " c " + row[2] + " d " + row[3] + " e " + row[4] + ";";
    }

    private void whoMakesIt() {
        SoapWorks x = CHECK.of(FIVE + "boils a b into c 1;boils c c into e 1;boils d e into c 1;boils a a into a 1;boils e e into e 1;boils c d into c 1;");
        int[] due = {8, 0, 37, 0, 18, -1};
        for (int kind = 0; kind < due.length; kind++) CHECK.due("makers(" + kind + ")", x.makers(kind), due[kind]);
        CHECK.due("makers(0) without RULES", CHECK.of("kind a;").makers(0), 0);
        CHECK.due("makers(0) without KINDS", new SoapWorks().makers(0), -1);
        edges.refused(AheadEdgesTest::busy, "makers(2)", y -> y.makers(2));
        for (int off : FAR_OFF) edges.refused(AheadEdgesTest::busy, "makers(" + off + ")", y -> y.makers(off));
    }

    private static void ifEachTold() {
        StringBuilder text = new StringBuilder("kind a;kind b;kind c;boils a b into c 1;rises 1;scum 100;");
        for (int p = 0; p < 7; p++) text.append("person ").append((char) ('p' + p)).append(" has a 20 b 20;");
        SoapWorks x = told(text.toString(), SEVEN);
        for (int n = 0; n <= 99; n++) CHECK.due("law(" + n + ")", x.law(n), 280 - n);
        SoapWorks two = told("kind a;kind b;person p has a 9;boils a a into b 2;boils b b into a 1;", 0);
        int[] due = {9, 8, 6, 5, 3, 3};
        for (int n = 0; n < due.length; n++) CHECK.due("law(" + n + ")", two.law(n), due[n]);
        CHECK.due("law(99) of a new one", new SoapWorks().law(99), 0);
        CHECK.due("law(0) without RULES", told(FOUR, 0).law(0), 3);
        // Nothing of it stays.
        CHECK.due("rule(0, 3)", two.rule(0, 3), 2);
    }

    private void noLaw() {
        edges.refused(AheadEdgesTest::busy, "law(100)", x -> x.law(100));
        for (int off : FAR_OFF) edges.refused(AheadEdgesTest::busy, "law(" + off + ")", x -> x.law(off));
    }

    private static void whatLiesThere() {
        CHECK.lies(new SoapWorks());
        SoapWorks x = told("kind a;person p has a 2;person q has a 2;" + "boils a a into a 1;".repeat(6), 0);
        CHECK.lies(x);
        x.order(0);
        CHECK.lies(x, 0, 1, 2, 3, 4, 5);
        for (int off : new int[] {6, 7, 99, -2, Integer.MIN_VALUE, Integer.MAX_VALUE}) CHECK.due("lies(" + off + ")", x.lies(off), -2);
        // It lies there whatever is done or asked, but for another ORDER, a DUEL or a WORKS.
        x.boil();
        x.undo();
        x.image(0);
        x.back(0);
        x.rise();
        CHECK.lies(x, 0, 1, 2, 3, 4, 5);
        x.duel(0, 1);
        CHECK.lies(x);
        x.order(0);
        Check.tell(x, "$");
        CHECK.lies(x, 0, 1, 2, 3, 4, 5);
        Check.tell(x, "");
        CHECK.lies(x);
    }

    // ---- promise 29

    private void duelling() {
        terms("DUEL of two who have not TOLD: each tells now, or keeps it; if it is RISEN behind the next BOILING, both lose 5 (-5),"
                + " else who tells has as much as he has together, who keeps it 0", AheadEdgesTest::everyDuel);
        terms("at RESTS neither, the other one's choosing so, would have more by the other choice.", AheadEdgesTest::oneOrMoreRests);
        edges.edge("Promise 29: duel", "DUEL: how many RESTS; NONE if both are one, one has TOLD, or can't be.", this::noDuel);
        edges.edge("Promise 29: duel", "Whether both tell (1, 0) in the first of these lies there then (the first one's, the other one's;"
                + " of like ones the least numbers; behind 0, NONE: nothing).", AheadEdgesTest::theFirstOfThese);
    }

    private static void duel(SoapWorks x, int person, int other, int rests, int... lies) {
        CHECK.due("duel(" + person + ", " + other + ")", x.duel(person, other), rests);
        CHECK.lies(x, lies);
    }

    /** In whichever of the four cases it is RISEN, and whatever the two have: by what each would have. */
    private static void everyDuel() {
        int[][] minds = {{1, 2}, {2, 1}, {1, 20}, {5, 6}, {6, 5}, {4, 3}};
        for (int[] mind : minds) {
            int[] all = {0, mind[1], mind[0], mind[0] + mind[1]};
            for (int risen = 0; risen < 16; risen++) {
                StringBuilder formula = new StringBuilder("0");
                for (int i = 0; i < 4; i++) if ((risen >> i & 1) == 1) formula.append(" or all=").append(all[i]);
                int rests = 0;
                int first = -1;
                for (int i = 3; i >= 0; i--) {
                    if (worth(risen, i ^ 2, 2, mind[0]) > worth(risen, i, 2, mind[0])) continue;
                    if (worth(risen, i ^ 1, 1, mind[1]) > worth(risen, i, 1, mind[1])) continue;
                    rests++;
                    first = i;
                }
                SoapWorks x = CHECK.of(people(mind) + "scum 100;rises " + formula + ";");
                CHECK.due("there is always one", rests > 0, true);
                duel(x, 0, 1, rests, first / 2, first % 2);
            }
        }
    }

    private static int worth(int risen, int choice, int own, int much) {
        if ((risen >> choice & 1) == 1) return -5;
        return (choice & own) > 0 ? much : 0;
    }

    private static void oneOrMoreRests() {
        String two = "kind a;kind b;person p has a 2 b 1;person q has a 5;person r has b 9;";
        duel(CHECK.of(two + "rises 0;"), 0, 1, 1, 1, 1);
        duel(CHECK.of(two + "rises 1;"), 0, 1, 4, 0, 0);
        duel(CHECK.of(two + "rises tellers=2;"), 0, 1, 2, 0, 1);
        duel(CHECK.of(two + "rises tellers>0;"), 0, 1, 2, 0, 0);
        duel(CHECK.of(two + "rises tellers=0;"), 0, 1, 1, 1, 1);
        duel(CHECK.of(two + "rises all=5;"), 0, 1, 1, 1, 1);
        // Behind the next BOILING: RULES come before it, later ones don't count.
        duel(CHECK.of("kind a;kind b;person p has a 4;person q has b 4;boils a b into a 9;rises all>4;"), 0, 1, 1, 1, 1);
        duel(CHECK.of("kind a;kind b;person p has a 4;person q has b 4;boils a b into a 9;rises all=4;"), 0, 1, 2, 0, 0);
        duel(CHECK.of(two + "rises day>1;"), 0, 1, 1, 1, 1);
        // With what is in the VAT already, and with who has TOLD.
        duel(told(two + "rises all>8;", 0), 1, 2, 1, 1, 0);
        duel(told(two + "rises tellers=3;", 0), 1, 2, 2, 0, 1);
        // As much as he has together, of all KINDS.
        StringBuilder five = new StringBuilder(FIVE);
        for (int p = 0; p < 7; p++) five.append("person ").append((char) ('p' + p)).append(" has e 1;");
        duel(CHECK.of(five + "rises all=2;"), 5, 6, 2, 0, 1);
    }

    private void noDuel() {
        edges.refused(AheadEdgesTest::busy, "duel(1, 1)", x -> x.duel(1, 1));
        edges.refused(AheadEdgesTest::busy, "duel(0, 1): the first has TOLD", x -> x.duel(0, 1));
        edges.refused(AheadEdgesTest::busy, "duel(1, 0): the other has TOLD", x -> x.duel(1, 0));
        edges.refused(AheadEdgesTest::busy, "duel(0, 3): both have TOLD", x -> x.duel(0, 3));
        edges.refused(AheadEdgesTest::busy, "duel(1, 4)", x -> x.duel(1, 4));
        edges.refused(AheadEdgesTest::busy, "duel(4, 1)", x -> x.duel(4, 1));
        for (int off : FAR_OFF) {
            edges.refused(AheadEdgesTest::busy, "duel(" + off + ", 1)", x -> x.duel(off, 1));
            edges.refused(AheadEdgesTest::busy, "duel(1, " + off + ")", x -> x.duel(1, off));
            edges.refused(AheadEdgesTest::busy, "duel(" + off + ", " + off + ")", x -> x.duel(off, off));
        }
        CHECK.due("duel(0, 1) without PEOPLE", new SoapWorks().duel(0, 1), -1);
        CHECK.due("duel(0, 1) of one", CHECK.of("kind a;person p has a 1;").duel(0, 1), -1);
    }

    private static void theFirstOfThese() {
        SoapWorks x = CHECK.of(people(3, 9, 4) + "rises all>8;");
        duel(x, 1, 0, 1, 0, 1);
        duel(x, 0, 1, 1, 1, 0);
        duel(x, 0, 2, 1, 1, 1);
        // Behind NONE nothing, whatever lay there.
        duel(x, 0, 0, -1);
        duel(x, 0, 2, 1, 1, 1);
        duel(x, 0, 3, -1);
        duel(x, 2, 0, 1, 1, 1);
        x.confess(0);
        duel(x, 0, 1, -1);
    }

    // ---- promises 32, 38, 40

    private void telling() {
        edges.edge("Promise 32: sinners", "Who has some of a KIND, as bits; NONE if there is none such.", this::whoHasSome);
        edges.edge("Promise 38: heaviest", "The one who has not TOLD who has most, of all KINDS together; of like ones the first; NONE if all have.",
                AheadEdgesTest::whoHasMost);
        edges.edge("Promise 40: mission", "How much the VAT would hold of all KINDS together, if all told who have not (no BOILING).",
                AheadEdgesTest::ifAllTold);
    }

    private void whoHasSome() {
        SoapWorks x = CHECK.of(FIVE + "person p has a 1;person q has e 20 a 3;person r has e 1;person s has d 1;person t has d 1;person u has d 1;person v has d 1 a 1;");
        int[] due = {0b1000011, 0, 0, 0b1111000, 0b0000110, -1};
        for (int told = 0; told < 2; told++) {
            for (int kind = 0; kind < due.length; kind++) CHECK.due("sinners(" + kind + ")", x.sinners(kind), due[kind]);
            x.confess(0);
            x.confess(6);
        }
        CHECK.due("sinners(0) without PEOPLE", CHECK.of("kind a;").sinners(0), 0);
        CHECK.due("sinners(0) without KINDS", new SoapWorks().sinners(0), -1);
        edges.refused(AheadEdgesTest::busy, "sinners(2)", y -> y.sinners(2));
        for (int off : FAR_OFF) edges.refused(AheadEdgesTest::busy, "sinners(" + off + ")", y -> y.sinners(off));
    }

    private static void whoHasMost() {
        CHECK.due("heaviest() without PEOPLE", new SoapWorks().heaviest(), -1);
        SoapWorks x = CHECK.of(FIVE + "person p has a 1 b 1 c 1 d 1 e 1;person q has a 6;person r has b 3 e 3;person s has e 5;person t has a 1;"
                + "person u has a 20;person v has a 20;");
        int[] due = {5, 6, 1, 2, 0, 3, 4, -1};
        for (int i = 0; i < due.length; i++) {
            CHECK.due("heaviest() " + i, x.heaviest(), due[i]);
            if (due[i] >= 0) x.confess(due[i]);
        }
        x.undo();
        CHECK.due("heaviest() behind undo()", x.heaviest(), 4);
    }

    private static void ifAllTold() {
        CHECK.due("mission() of a new one", new SoapWorks().mission(), 0);
        StringBuilder text = new StringBuilder(FIVE + "boils a b into c 9;rises 1;");
        for (int p = 0; p < 7; p++) text.append("person ").append((char) ('p' + p)).append(" has a 20 b 20 c 20 d 20 e 20;");
        SoapWorks x = CHECK.of(text.toString());
        CHECK.due("mission() of none told", x.mission(), 700);
        x.confess(3);
        CHECK.due("mission() of one told", x.mission(), 700);
        x.sweep(4);
        CHECK.due("mission() behind a sweep", x.mission(), 680);
        for (int p = 0; p < 7; p++) x.confess(p);
        CHECK.due("mission() of all told", x.mission(), 680);
        x.boil();
        CHECK.due("mission() behind the street", x.mission(), 0);
    }

    // ---- promise 41

    private void odds() {
        terms("ODDS: that there is no scum in n BOILINGS, whatever the SEED is.", AheadEdgesTest::whateverTheSeedIs);
        edges.edge("Promise 41: odds", "ODDS (n 0 .. 4) the upper part (0), the lower part (1), in lowest terms (0 of 1)", AheadEdgesTest::inLowestTerms);
        edges.edge("Promise 41: odds", "NONE if one can't be.", this::noOdds);
    }

    private static void odds(String text, int n, int upper, int lower) {
        SoapWorks x = CHECK.of(text);
        CHECK.due("odds(" + n + ", 0) of '" + text + "'", x.odds(n, 0), upper);
        CHECK.due("odds(" + n + ", 1) of '" + text + "'", x.odds(n, 1), lower);
    }

    private static void whateverTheSeedIs() {
        for (int draw = 0; draw < 1000; draw += 111) odds("scum 30;draw " + draw + ";", 2, 49, 100);
        SoapWorks x = CHECK.of("scum 30;draw 5;");
        for (int i = 0; i < 9; i++) {
            CHECK.due("odds(1, 0)", x.odds(1, 0), 7);
            CHECK.due("odds(1, 1)", x.odds(1, 1), 10);
            x.boil();
        }
    }

    private static void inLowestTerms() {
        for (int scum = 0; scum <= 100; scum++) {
            long upper = 1;
            long lower = 1;
            for (int n = 0; n <= 4; n++) {
                long shared = java.math.BigInteger.valueOf(upper).gcd(java.math.BigInteger.valueOf(lower)).longValueExact();
                odds("scum " + scum + ";", n, (int) (upper / shared), (int) (lower / shared));
                upper *= 100 - scum;
                lower *= 100;
            }
        }
        odds("", 4, 1, 1);
        odds("scum 0;", 4, 1, 1);
        odds("scum 100;", 0, 1, 1);
        odds("scum 100;", 1, 0, 1);
        odds("scum 100;", 4, 0, 1);
        odds("scum 99;", 4, 1, 100000000);
        odds("scum 1;", 4, 96059601, 100000000);
        odds("scum 50;", 4, 1, 16);
        odds("scum 36;", 4, 65536, 390625);
    }

    private void noOdds() {
        Supplier<SoapWorks> scum = () -> CHECK.of("scum 30;");
        CHECK.due("odds(0, 0)", scum.get().odds(0, 0), 1);
        CHECK.due("odds(4, 1)", scum.get().odds(4, 1), 10000);
        edges.refused(scum, "odds(5, 0)", x -> x.odds(5, 0));
        edges.refused(scum, "odds(5, 1)", x -> x.odds(5, 1));
        edges.refused(scum, "odds(1, 2)", x -> x.odds(1, 2));
        for (int off : FAR_OFF) {
            edges.refused(scum, "odds(" + off + ", 0)", x -> x.odds(off, 0));
            edges.refused(scum, "odds(1, " + off + ")", x -> x.odds(1, off));
        }
    }
}
