/** What lies ahead: promises 16 to 26, 29 to 31, 34 to 36, 38 to 42. */
public final class AheadTest {
    private static final Check CHECK = new Check("AheadTest");
    private static final int[] FAR_OFF = {-1, 99, Integer.MIN_VALUE, Integer.MAX_VALUE};
    private static final String FOUR = "kind a;person p has a 3;person q has a 5;person r has a 5;person s has a 4;";
    /** Of a, 2 go in each BOILING: one of d comes of 8 of them in 4. */
    private static final String SLOW = "kind a;kind b;kind c;kind d;boils a a into b 1;boils b b into c 1;boils c c into d 1;"
            + "person f has a 20;person g has a 20;person h has a 20;person i has a 20;person j has a 20;person k has a 20;";

    public static void main(String[] args) {
        willBe();
        itRises();
        someoneRouses();
        choirsSing();
        whoHasPower();
        basinsAreServed();
        balmIsTold();
        basinsAreCookedFor();
        basinsLack();
        itRests();
        ordersAreTried();
        theyDuel();
        rulesAreAlive();
        kindsAreThickAndThin();
        someoneIsHeaviest();
        lawIsTold();
        missionIsTold();
        oddsAreExact();
        nothingIsDone();
        CHECK.close();
    }

    private static SoapWorks told(String text, int... who) {
        SoapWorks x = CHECK.of(text);
        for (int person : who) x.confess(person);
        return x;
    }

    private static void willBe() {
        String nine = "kind a;kind b;person p has a 9;boils a a into b 2;";
        SoapWorks x = told(nine + "rises 0;", 0);
        int[][] due = {{9, 0}, {5, 2}, {1, 4}, {1, 4}};
        for (int n = 0; n < due.length; n++) {
            CHECK.due("will(0, " + n + ", 0)", x.will(0, n, 0), due[n][0]);
            CHECK.due("will(1, " + n + ", 0)", x.will(1, n, 0), due[n][1]);
            CHECK.due("will(1, " + n + ", 1) with scum 0", x.will(1, n, 1), due[n][1]);
        }
        CHECK.due("will(1, 60, 0)", x.will(1, 60, 0), 4);
        CHECK.due("will(1, 61, 0)", x.will(1, 61, 0), -1);
        CHECK.due("will(1, 1, 2)", x.will(1, 1, 2), -1);
        CHECK.due("will(2, 1, 0)", x.will(2, 1, 0), -1);
        for (int off : FAR_OFF) {
            CHECK.due("will(" + off + ", 1, 0)", x.will(off, 1, 0), -1);
            CHECK.due("will(0, " + off + ", 0)", x.will(0, off, 0), -1);
            CHECK.due("will(0, 1, " + off + ")", x.will(0, 1, off), -1);
        }
        SoapWorks street = told(nine + "rises day=2;", 0);
        CHECK.due("will(1, 1, 0)", street.will(1, 1, 0), 2);
        CHECK.due("will(1, 2, 0): in the street", street.will(1, 2, 0), 0);
        CHECK.due("will(1, 60, 0)", street.will(1, 60, 0), 0);
        SoapWorks scum = told(nine + "rises 0;scum 100;", 0);
        CHECK.due("will(0, 1, 1)", scum.will(0, 1, 1), 4);
        CHECK.due("will(1, 1, 1)", scum.will(1, 1, 1), 1);
        CHECK.due("will(0, 2, 1)", scum.will(0, 2, 1), 0);
        CHECK.due("will(1, 2, 1)", scum.will(1, 2, 1), 2);
        CHECK.due("will(1, 2, 0)", scum.will(1, 2, 0), 4);
        CHECK.due("will(1, 4, 1)", scum.will(1, 4, 1), 0);
        // By the SEED as it is: 9, then 304, 719, 574, 709, 204.
        SoapWorks seed = told("kind a;person p has a 20;rises 0;scum 9;draw 9;", 0);
        CHECK.due("will(0, 1, 1)", seed.will(0, 1, 1), 19);
        CHECK.due("will(0, 4, 1)", seed.will(0, 4, 1), 19);
        CHECK.due("will(0, 5, 1)", seed.will(0, 5, 1), 18);
        seed.boil();
        CHECK.due("will(0, 3, 1)", seed.will(0, 3, 1), 19);
        CHECK.due("will(0, 4, 1)", seed.will(0, 4, 1), 18);
        // With scum it may not rise at all, or another day.
        SoapWorks both = told("kind a;person p has a 5;rises all=3;scum 100;", 0);
        CHECK.due("will(0, 1, 1)", both.will(0, 1, 1), 4);
        CHECK.due("will(0, 2, 1)", both.will(0, 2, 1), 0);
        CHECK.due("will(0, 2, 0)", both.will(0, 2, 0), 5);
    }

    private static void itRises() {
        CHECK.due("rise()", CHECK.of("rises day>59;").rise(), 60);
        CHECK.due("rise()", CHECK.of("rises day>60;").rise(), -1);
        CHECK.due("rise()", CHECK.of("rises 1;").rise(), 1);
        CHECK.due("rise()", CHECK.of("rises 0;").rise(), -1);
        SoapWorks x = CHECK.of("rises day>60;");
        x.boil();
        CHECK.due("rise() a day later", x.rise(), 60);
        CHECK.due("rise() in a vat at rest", told(FOUR + "rises day>40 and all>3;", 1).rise(), 41);
        CHECK.due("rise() behind rest", told("kind a;kind b;person p has a 8;boils a a into b 1;rises all=4;", 0).rise(), 4);
        CHECK.due("rise() never", told("kind a;kind b;person p has a 8;boils a a into b 1;rises all=3;", 0).rise(), -1);
        // No scum: 5 stay 5.
        SoapWorks scum = told("kind a;person p has a 5;scum 100;rises all>4;", 0);
        CHECK.due("rise()", scum.rise(), 1);
        CHECK.due("boil()", scum.boil(), 0);
        // At rest from the second BOILING on, till a day comes.
        CHECK.due("rise()", told("kind a;kind b;person p has a 9;boils a a into b 9;rises day=7 and most=4;", 0).rise(), 7);
        // What it was before the next BOILING does not count.
        CHECK.due("rise()", told("kind a;person p has a 9;boils a a into a 9;rises all>8;", 0).rise(), -1);
    }

    private static void someoneRouses() {
        SoapWorks x = CHECK.of("kind a;person p has a 3;person q has a 5;person r has a 5;rises all+day>10;");
        CHECK.due("rouser(0)", x.rouser(0), 1);
        CHECK.due("rouser(1)", x.rouser(1), 6);
        CHECK.due("rouser(2)", x.rouser(2), -1);
        for (int off : FAR_OFF) CHECK.due("rouser(" + off + ")", x.rouser(off), -1);
        x.confess(1);
        CHECK.due("rouser(0)", x.rouser(0), 2);
        CHECK.due("rouser(1)", x.rouser(1), 1);
        x.confess(2);
        CHECK.due("rouser(0)", x.rouser(0), 0);
        CHECK.due("rouser(1)", x.rouser(1), 1);
        x.confess(0);
        CHECK.due("rouser(0) when all have TOLD", x.rouser(0), -1);
        CHECK.due("rouser(1) when all have TOLD", x.rouser(1), -1);
        SoapWorks two = CHECK.of("kind a;person p has a 3;person q has a 5;rises tellers>1;");
        CHECK.due("rouser(0) by none", two.rouser(0), -1);
        CHECK.due("rouser(1) by none", two.rouser(1), -1);
        two.confess(0);
        CHECK.due("rouser(0)", two.rouser(0), 1);
        CHECK.due("rouser(1)", CHECK.of(FOUR + "rises tellers=1 and day>59;").rouser(1), 60);
        CHECK.due("rouser(1)", CHECK.of(FOUR + "rises tellers=1 and day>60;").rouser(1), -1);
        // Of like ones the first, also when it rises without any.
        CHECK.due("rouser(0)", CHECK.of(FOUR + "rises 1;").rouser(0), 0);
        CHECK.due("rouser(0)", CHECK.of(FOUR + "rises all=4;").rouser(0), 3);
    }

    private static void choir(SoapWorks x, int n, int many, int who) {
        CHECK.due("choir(" + n + ", 0)", x.choir(n, 0), many);
        CHECK.due("choir(" + n + ", 1)", x.choir(n, 1), who);
    }

    private static void choirsSing() {
        choir(CHECK.of(FOUR + "rises all>9;"), 1, 2, 0b0110);
        choir(CHECK.of(FOUR + "rises all>8;"), 1, 2, 0b0110);
        choir(CHECK.of(FOUR + "rises all>7;"), 1, 2, 0b0011);
        choir(CHECK.of(FOUR + "rises all=9;"), 1, 2, 0b1010);
        choir(CHECK.of(FOUR + "rises all>16;"), 1, 4, 0b1111);
        choir(CHECK.of(FOUR + "rises all>17;"), 30, -1, -1);
        SoapWorks x = CHECK.of(FOUR + "rises all+day>12;");
        choir(x, 1, 3, 0b0111);
        choir(x, 2, 3, 0b0111);
        choir(x, 3, 2, 0b0110);
        choir(x, 8, 1, 0b0010);
        choir(x, 12, 1, 0b0001);
        choir(x, 13, 0, 0);
        choir(x, 30, 0, 0);
        choir(x, 0, -1, -1);
        choir(x, 31, -1, -1);
        CHECK.due("choir(1, 2)", x.choir(1, 2), -1);
        for (int off : FAR_OFF) {
            choir(x, off, -1, -1);
            CHECK.due("choir(1, " + off + ")", x.choir(1, off), -1);
        }
        x.confess(1);
        choir(x, 1, 2, 0b0101);
        choir(x, 3, 1, 0b0100);
        choir(CHECK.of(FOUR + "rises day>29 and tellers=2;"), 30, 2, 0b0011);
        choir(CHECK.of(FOUR + "rises day>30 and tellers=2;"), 30, -1, -1);
        choir(told(FOUR + "rises tellers=4;", 0, 1, 2, 3), 1, 0, 0);
        choir(told(FOUR + "rises tellers=5;", 0, 1, 2, 3), 1, -1, -1);
        choir(new SoapWorks(), 1, -1, -1);
    }

    private static void powers(SoapWorks x, int... due) {
        for (int person = 0; person < due.length; person++) CHECK.due("power(" + person + ")", x.power(person), due[person]);
    }

    private static void whoHasPower() {
        SoapWorks x = CHECK.of(FOUR + "rises all>9;");
        powers(x, 2, 4, 4, 2, -1);
        for (int off : FAR_OFF) CHECK.due("power(" + off + ")", x.power(off), -1);
        x.confess(1);
        powers(x, 1, -1, 3, 1);
        // By one too many it is not RISEN any more; only who makes it so counts.
        powers(CHECK.of(FOUR + "rises all=5;"), 0, 1, 1, 0);
        powers(CHECK.of(FOUR + "rises tellers=2;"), 3, 3, 3, 3);
        powers(CHECK.of(FOUR + "rises tellers=4;"), 1, 1, 1, 1);
        powers(CHECK.of(FOUR + "rises all=17 or all=3;"), 2, 1, 1, 1);
        powers(CHECK.of(FOUR + "rises day>1 or tellers>0;"), 1, 1, 1, 1);
        powers(CHECK.of(FOUR + "rises 1;"), 0, 0, 0, 0);
        powers(CHECK.of(FOUR + "rises day>1 and all>4;"), 0, 0, 0, 0);
        // Behind the BOILING: 8 become 4, 9 become 5.
        powers(CHECK.of(FOUR + "boils a a into a 9;rises all>4;"), 0, 4, 4, 4);
    }

    private static void serve(SoapWorks x, int many, int which) {
        CHECK.due("serve(0)", x.serve(0), many);
        CHECK.due("serve(1)", x.serve(1), which);
    }

    private static void basinsAreServed() {
        SoapWorks x = CHECK.of("kind a;kind b;person p has a 5 b 3;basin k wants a 3;basin l wants a 2 b 1;"
                + "basin m wants a 3 b 3;basin n wants b 2;");
        serve(x, 0, 0);
        x.confess(0);
        serve(x, 3, 0b1011);
        CHECK.due("serve(2)", x.serve(2), -1);
        for (int off : FAR_OFF) CHECK.due("serve(" + off + ")", x.serve(off), -1);
        x.wash(0);
        serve(x, 2, 0b1010);
        x.sweep(0);
        serve(x, 1, 0b1000);
        x.wash(3);
        serve(x, 0, 0);
        serve(told("kind a;person p has a 4;basin k wants a 3;basin l wants a 2;basin m wants a 2;basin n wants a 1;", 0), 2, 0b0110);
        serve(told("kind a;person p has a 3;basin k wants a 3;basin l wants a 3;basin m wants a 4;", 0), 1, 0b0001);
        serve(told("kind a;person p has a 10;basin k wants a 1;basin l wants a 2;basin m wants a 3;basin n wants a 4;", 0), 4, 15);
        serve(told("kind a;person p has a 9;basin k wants a 1;basin l wants a 2;basin m wants a 3;basin n wants a 4;", 0), 3, 0b0111);
    }

    private static void balm(SoapWorks x, int basin, int many, int who) {
        CHECK.due("balm(" + basin + ", 0)", x.balm(basin, 0), many);
        CHECK.due("balm(" + basin + ", 1)", x.balm(basin, 1), who);
    }

    private static void balmIsTold() {
        SoapWorks x = CHECK.of("kind a;kind b;person p has a 3;person q has a 1;person r has b 2;person s has a 4 b 1;"
                + "person t has b 1;basin k wants a 4 b 2;basin l wants a 8;basin m wants a 9;basin n wants b 1;");
        balm(x, 0, 2, 0b01100);
        balm(x, 1, 3, 0b01011);
        balm(x, 2, -1, -1);
        balm(x, 3, 1, 0b00100);
        balm(x, 4, -1, -1);
        CHECK.due("balm(0, 2)", x.balm(0, 2), -1);
        for (int off : FAR_OFF) {
            balm(x, off, -1, -1);
            CHECK.due("balm(0, " + off + ")", x.balm(0, off), -1);
        }
        x.confess(3);
        balm(x, 0, 1, 0b00100);
        balm(x, 1, 2, 0b00011);
        balm(x, 3, 0, 0);
        x.confess(2);
        balm(x, 0, 0, 0);
        x.wash(0);
        balm(x, 0, 3, 0b10011);
        balm(x, 3, 0, 0);
        x.sweep(1);
        balm(x, 0, -1, -1);
        // No BOILING, whatever the RULES and whatever rises.
        balm(CHECK.of("kind a;kind b;person p has a 2;boils a a into b 1;basin k wants b 1;basin l wants a 2;rises 1;"), 0, -1, -1);
        balm(CHECK.of("kind a;kind b;person p has a 2;boils a a into b 1;basin k wants b 1;basin l wants a 2;rises 1;"), 1, 1, 1);
    }

    private static void basinsAreCookedFor() {
        String basins = "kind a;kind b;person p has a 9;boils a a into b 2;basin k wants b 4;basin l wants b 1;basin m wants b 5;"
                + "basin n wants a 9;";
        SoapWorks x = told(basins + "rises 0;", 0);
        int[] due = {2, 1, -1, 0, -1};
        for (int basin = 0; basin < due.length; basin++) CHECK.due("cook(" + basin + ")", x.cook(basin), due[basin]);
        for (int off : FAR_OFF) CHECK.due("cook(" + off + ")", x.cook(off), -1);
        SoapWorks street = told(basins + "rises day=2;scum 100;", 0);
        int[] less = {-1, 1, -1, 0, -1};
        for (int basin = 0; basin < less.length; basin++) CHECK.due("cook(" + basin + ")", street.cook(basin), less[basin]);
        String slow = SLOW + "basin x wants d 15;basin y wants d 16;rises 0;";
        SoapWorks far = told(slow + "person l has a 20;", 0, 1, 2, 3, 4, 5, 6);
        CHECK.due("cook(0)", far.cook(0), 60);
        CHECK.due("cook(1)", far.cook(1), -1);
        far.boil();
        CHECK.due("cook(0)", far.cook(0), 59);
        // Also for a BASIN that is EASED.
        SoapWorks eased = told("kind a;person p has a 5;basin k wants a 2;", 0);
        eased.wash(0);
        CHECK.due("cook(0)", eased.cook(0), 0);
        eased.sweep(0);
        CHECK.due("cook(0)", eased.cook(0), -1);
    }

    private static void basinsLack() {
        SoapWorks x = CHECK.of("kind a;kind b;person p has a 5 b 3;basin k wants a 7 b 2;basin l wants a 5 b 3;basin m wants b 6;"
                + "basin n wants a 6 b 5;");
        int[] before = {9, 8, 6, 11, -1};
        for (int basin = 0; basin < before.length; basin++) CHECK.due("lacks(" + basin + ")", x.lacks(basin), before[basin]);
        CHECK.due("nearest()", x.nearest(), 2);
        x.confess(0);
        int[] then = {2, 0, 3, 3, -1};
        for (int basin = 0; basin < then.length; basin++) CHECK.due("lacks(" + basin + ")", x.lacks(basin), then[basin]);
        for (int off : FAR_OFF) CHECK.due("lacks(" + off + ")", x.lacks(off), -1);
        CHECK.due("nearest()", x.nearest(), 1);
        CHECK.due("wanted(0)", x.wanted(0), 18);
        CHECK.due("wanted(1)", x.wanted(1), 16);
        x.wash(1);
        CHECK.due("lacks(1) of an EASED one", x.lacks(1), 8);
        CHECK.due("nearest()", x.nearest(), 2);
        CHECK.due("wanted(0)", x.wanted(0), 13);
        CHECK.due("wanted(1)", x.wanted(1), 13);
        CHECK.due("wanted(2)", x.wanted(2), -1);
        for (int off : FAR_OFF) CHECK.due("wanted(" + off + ")", x.wanted(off), -1);
        CHECK.due("nearest() without BASINS", CHECK.of("kind a;").nearest(), -1);
        SoapWorks like = told("kind a;person p has a 9;basin k wants a 4;basin l wants a 2;basin m wants a 2;", 0);
        CHECK.due("nearest() of like ones", like.nearest(), 0);
        like.wash(0);
        CHECK.due("nearest() of like ones", like.nearest(), 1);
        like.wash(1);
        like.wash(2);
        CHECK.due("nearest() when all are", like.nearest(), -1);
        CHECK.due("wanted(0) when all are", like.wanted(0), 0);
    }

    private static void itRests() {
        CHECK.due("rest() of nothing", new SoapWorks().rest(), 0);
        CHECK.due("rest() without RULES", told(FOUR, 0, 1).rest(), 0);
        SoapWorks x = told("kind a;kind b;person p has a 9;boils a a into b 2;rises 1;scum 100;", 0);
        CHECK.due("rest()", x.rest(), 2);
        CHECK.due("rest()", told(SLOW + "person l has a 1;rises 0;", 0, 1, 2, 3, 4, 5).rest(), 60);
        CHECK.due("rest()", told(SLOW + "person l has a 1;rises 0;", 0, 1, 2, 3, 4, 5, 6).rest(), 60);
        CHECK.due("rest()", told(SLOW + "person l has a 2;rises 0;", 0, 1, 2, 3, 4, 5, 6).rest(), -1);
    }

    private static void ordersAreTried() {
        // b comes first of a, then goes with c into d, or stays.
        String text = "kind a;kind b;kind c;kind d;person p has a 4 c 3;boils a a into b 9;boils b c into d 9;rises 1;";
        SoapWorks x = told(text, 0);
        CHECK.due("order(3)", x.order(3), 2);
        CHECK.lies(x, 0, 1);
        CHECK.due("order(1)", x.order(1), 2);
        CHECK.lies(x, 1, 0);
        CHECK.due("order(0): as told, of like ones", x.order(0), 0);
        CHECK.lies(x, 0, 1);
        CHECK.due("order(4)", x.order(4), -1);
        CHECK.lies(x);
        x.order(1);
        for (int off : FAR_OFF) {
            CHECK.due("order(" + off + ")", x.order(off), -1);
            CHECK.lies(x);
        }
        // d comes only by 2, 1, 0.
        SoapWorks three = told("kind a;kind b;kind c;kind d;person p has a 8;boils c c into d 9;boils b b into c 9;boils a a into b 9;", 0);
        CHECK.due("order(3)", three.order(3), 1);
        CHECK.lies(three, 2, 1, 0);
        CHECK.due("order(2)", three.order(2), 2);
        CHECK.lies(three, 0, 2, 1);
        CHECK.due("order(1)", three.order(1), 4);
        CHECK.lies(three, 0, 1, 2);
        SoapWorks six = told("kind a;kind b;kind c;kind d;kind e;person p has a 16 b 1;boils d d into e 9;boils c c into d 9;"
                + "boils b b into c 9;boils a a into b 9;boils a b into a 1;boils e e into a 1;", 0);
        CHECK.due("order(4)", six.order(4), 1);
        CHECK.lies(six, 3, 2, 1, 0, 4, 5);
        CHECK.due("order(0): none stays, whatever the order", six.order(0), 0);
        CHECK.lies(six, 0, 1, 2, 3, 4, 5);
        CHECK.due("order(0) without RULES", told(FOUR, 0).order(0), 3);
    }

    private static void duel(SoapWorks x, int person, int other, int rests, int... lies) {
        CHECK.due("duel(" + person + ", " + other + ")", x.duel(person, other), rests);
        CHECK.lies(x, lies);
    }

    private static void theyDuel() {
        String two = "kind a;kind b;person p has a 2 b 1;person q has a 5;person r has b 9;";
        duel(CHECK.of(two + "rises 0;"), 0, 1, 1, 1, 1);
        duel(CHECK.of(two + "rises 1;"), 0, 1, 4, 0, 0);
        duel(CHECK.of(two + "rises tellers=2;"), 0, 1, 2, 0, 1);
        duel(CHECK.of(two + "rises tellers>0;"), 0, 1, 2, 0, 0);
        duel(CHECK.of(two + "rises tellers=1;"), 0, 1, 2, 0, 0);
        duel(CHECK.of(two + "rises tellers%2=0;"), 0, 1, 2, 0, 1);
        duel(CHECK.of(two + "rises tellers=0;"), 0, 1, 1, 1, 1);
        duel(CHECK.of(two + "rises all=3;"), 0, 1, 1, 1, 1);
        duel(CHECK.of(two + "rises day>1;"), 0, 1, 1, 1, 1);
        // By the one's telling it rises, by the other one's not.
        SoapWorks x = CHECK.of(two + "rises all>8;");
        duel(x, 2, 0, 1, 0, 1);
        duel(x, 0, 2, 1, 1, 0);
        duel(x, 0, 1, 1, 1, 1);
        duel(x, 0, 0, -1);
        duel(x, 0, 1, 1, 1, 1);
        duel(x, 0, 3, -1);
        for (int off : FAR_OFF) {
            duel(x, 0, 1, 1, 1, 1);
            duel(x, 0, off, -1);
            duel(x, off, 0, -1);
            duel(x, off, off, -1);
        }
        x.confess(0);
        duel(x, 0, 1, -1);
        duel(x, 1, 0, -1);
        // 3 are in the VAT: with 5 of his, none of the others', it does not rise.
        duel(x, 1, 2, 1, 1, 0);
    }

    private static void rulesAreAlive() {
        SoapWorks x = CHECK.of("kind a;kind b;kind c;person p has a 1;person q has b 2;boils a a into b 9;boils a b into c 1;"
                + "boils b b into b 1;boils c b into a 9;boils b a into a 9;");
        CHECK.due("alive()", x.alive(), 0);
        x.confess(0);
        CHECK.due("alive()", x.alive(), 0);
        x.confess(1);
        CHECK.due("alive(): each by itself", x.alive(), 0b10110);
        x.sweep(0);
        CHECK.due("alive()", x.alive(), 0b00100);
        CHECK.due("alive() of six", told("kind a;person p has a 2;" + "boils a a into a 1;".repeat(6), 0).alive(), 63);
    }

    private static void kindsAreThickAndThin() {
        SoapWorks x = CHECK.of("kind a;kind b;kind c;person p has b 4;person q has c 4 a 1;person r has a 9 b 1;");
        int[][] due = {{0, 0}, {1, 0}, {1, 0}, {0, 2}};
        for (int i = 0; i < due.length; i++) {
            if (i > 0) x.confess(i - 1);
            CHECK.due("thickest() " + i, x.thickest(), due[i][0]);
            CHECK.due("thinnest() " + i, x.thinnest(), due[i][1]);
        }
        CHECK.due("thickest() without KINDS", new SoapWorks().thickest(), -1);
        CHECK.due("thinnest() without KINDS", new SoapWorks().thinnest(), -1);
        SoapWorks like = told("kind a;kind b;kind c;person p has a 3 b 2 c 2;", 0);
        CHECK.due("thinnest() of like ones", like.thinnest(), 1);
        SoapWorks most = told("kind a;kind b;kind c;person p has a 1 b 2 c 2;", 0);
        CHECK.due("thickest() of like ones", most.thickest(), 1);
    }

    private static void someoneIsHeaviest() {
        SoapWorks x = CHECK.of("kind a;kind b;person p has a 5;person q has a 3 b 4;person r has b 7;person s has b 1;");
        int[] due = {1, 2, 0, 3, -1};
        for (int i = 0; i < due.length; i++) {
            CHECK.due("heaviest() " + i, x.heaviest(), due[i]);
            if (due[i] >= 0) x.confess(due[i]);
        }
        CHECK.due("heaviest() without PEOPLE", new SoapWorks().heaviest(), -1);
    }

    private static void lawIsTold() {
        SoapWorks x = told("kind a;kind b;person p has a 9;boils a a into b 2;boils b b into a 1;rises 1;scum 100;", 0);
        CHECK.due("law(0)", x.law(0), 9);
        CHECK.due("law(1)", x.law(1), 8);
        CHECK.due("law(2): 4 less 2, and 2 less 1", x.law(2), 6);
        CHECK.due("law(4)", x.law(4), 3);
        CHECK.due("law(99)", x.law(99), 3);
        CHECK.due("law(100)", x.law(100), -1);
        for (int off : new int[] {-1, Integer.MIN_VALUE, Integer.MAX_VALUE}) CHECK.due("law(" + off + ")", x.law(off), -1);
        CHECK.due("law(5) of nothing", new SoapWorks().law(5), 0);
    }

    private static void missionIsTold() {
        SoapWorks x = CHECK.of(FOUR + "boils a a into a 9;rises 1;");
        CHECK.due("mission()", x.mission(), 17);
        x.confess(2);
        CHECK.due("mission()", x.mission(), 17);
        x.sweep(0);
        CHECK.due("mission()", x.mission(), 12);
        x.confess(0);
        x.confess(1);
        x.confess(3);
        CHECK.due("mission()", x.mission(), 12);
        CHECK.due("mission() of nothing", new SoapWorks().mission(), 0);
    }

    private static void odds(int scum, int n, int upper, int lower) {
        SoapWorks x = CHECK.of("scum " + scum + ";");
        CHECK.due("odds(" + n + ", 0) of " + scum, x.odds(n, 0), upper);
        CHECK.due("odds(" + n + ", 1) of " + scum, x.odds(n, 1), lower);
    }

    private static void oddsAreExact() {
        odds(30, 0, 1, 1);
        odds(30, 1, 7, 10);
        odds(30, 2, 49, 100);
        odds(30, 3, 343, 1000);
        odds(30, 4, 2401, 10000);
        odds(0, 0, 1, 1);
        odds(0, 4, 1, 1);
        odds(100, 0, 1, 1);
        odds(100, 1, 0, 1);
        odds(100, 4, 0, 1);
        odds(99, 4, 1, 100000000);
        odds(1, 4, 96059601, 100000000);
        odds(50, 3, 1, 8);
        odds(25, 2, 9, 16);
        odds(36, 4, 65536, 390625);
        odds(30, 5, -1, -1);
        for (int off : FAR_OFF) odds(30, off, -1, -1);
        SoapWorks x = CHECK.of("scum 30;draw 5;");
        CHECK.due("odds(1, 2)", x.odds(1, 2), -1);
        for (int off : FAR_OFF) CHECK.due("odds(1, " + off + ")", x.odds(1, off), -1);
        x.boil();
        CHECK.due("odds(2, 0), whatever the SEED is", x.odds(2, 0), 49);
        CHECK.due("odds(2, 0) without scum told", CHECK.of("").odds(2, 0), 1);
    }

    /** Looking ahead changes nothing but what lies there. */
    private static void nothingIsDone() {
        SoapWorks x = told("kind a;kind b;person p has a 9;person q has b 3;person r has a 2 b 2;boils a b into a 2;basin k wants a 3;"
                + "rises all+day>12;scum 70;draw 8;", 0);
        x.boil();
        int[] before = new int[15];
        for (int what = 0; what < 15; what++) before[what] = x.about(what);
        x.will(0, 9, 1);
        x.rise();
        x.rouser(0);
        x.choir(9, 0);
        x.power(1);
        x.serve(0);
        x.balm(0, 0);
        x.cook(0);
        x.rest();
        x.order(0);
        x.duel(1, 2);
        x.law(3);
        x.mission();
        x.fits(0);
        x.ask(3, 0, 0);
        for (int what = 0; what < 15; what++) CHECK.due("about(" + what + ")", x.about(what), before[what]);
        CHECK.vat(x, 8, 0);
    }
}
