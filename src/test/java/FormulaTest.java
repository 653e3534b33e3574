/** When it is RISEN: what comes of a formula (promises 11 and 17, by Terms, part 2). */
public final class FormulaTest {
    private static final Check CHECK = new Check("FormulaTest");
    private static final String MIN = "(4096*4096*128)";

    public static void main(String[] args) {
        risenIsAboveNothing();
        joining();
        numbersWrap();
        quantities();
        theUntoldFormula();
        CHECK.close();
    }

    /** That a formula without a VAT is RISEN or not behind the first BOILING. */
    private static void risen(String formula, boolean want) {
        CHECK.due("boil() by '" + formula + "'", CHECK.of("rises " + formula + ";").boil(), want ? 1 : 0);
        CHECK.due("rise() by '" + formula + "'", CHECK.of("rises " + formula + ";").rise() == 1, want);
    }

    private static void worth(String formula, int want) {
        String due = want < 0 ? "(0-" + -want + ")" : String.valueOf(want);
        risen("(" + formula + ")=" + due, true);
        risen("(" + formula + ")<" + due, false);
        risen("(" + formula + ")>" + due, false);
    }

    private static void risenIsAboveNothing() {
        risen("1", true);
        risen("9999", true);
        risen("0", false);
        risen("0-1", false);
        risen("2-1", true);
        risen("1-2", false);
        risen(MIN, false);
        risen(MIN + "-1", true);
    }

    private static void joining() {
        worth("2+3*4", 14);
        worth("(2+3)*4", 20);
        worth("7-2-1", 4);
        worth("7-2+1", 6);
        worth("7-(2-1)", 6);
        worth("100/7/2", 7);
        worth("100/(7/2)", 33);
        worth("17%5*2", 4);
        worth("2*3%4", 2);
        worth("2*(3%4)", 6);
        worth("20/3*2", 12);
        worth("1<2", 1);
        worth("2<1", 0);
        worth("1<1", 0);
        worth("2>1", 1);
        worth("1>2", 0);
        worth("1>1", 0);
        worth("3=3", 1);
        worth("3=4", 0);
        worth("1+1=2", 1);
        worth("2=1+1", 1);
        worth("5 and 7", 1);
        worth("5 and 0", 0);
        worth("0 and 5", 0);
        worth("0 and 0", 0);
        worth("5 or 7", 1);
        worth("5 or 0", 1);
        worth("0 or 5", 1);
        worth("0 or 0", 0);
        worth("(0-2) and 1", 1);
        worth("(0-2) or 0", 1);
        worth("not 0", 1);
        worth("not 5", 0);
        worth("not (0-5)", 0);
        worth("not not 5", 1);
        worth("5", 5);
        worth("(5)", 5);
        worth("1 or 1 and 0", 1);
        worth("(1 or 1) and 0", 0);
        worth("0 and 0 or 1", 1);
        worth("0 and (0 or 1)", 0);
        worth("not 0 and 0", 0);
        worth("not (0 and 0)", 1);
        worth("not 1 or 1", 1);
        worth("not 1<0", 1);
        worth("not 2>1", 0);
        worth("not 0+1", 0);
        worth("1 and not 0", 1);
        worth("2<3 and 3<2 or 4=4", 1);
        // As long as one can be: thirty units with seven nots each, of which the last one alone is so.
        String no = "not ".repeat(7);
        risen((no + "1 or ").repeat(29) + no + "0", true);
        risen((no + "1 or ").repeat(29) + no + "1", false);
        risen((no + "0 and ").repeat(29) + no + "1", false);
        // And as much of it waiting for its right side as can be.
        String waiting = "0 or 1 and 1<1+1*(".repeat(4);
        risen(waiting + "0 or 1 and 1<1+1*1" + ")".repeat(4), true);
        risen(waiting + "0 or 1 and 1<1+0*1" + ")".repeat(4), false);
    }

    private static void numbersWrap() {
        worth("(0-7)/2", -3);
        worth("7/(0-2)", -3);
        worth("(0-7)%2", -1);
        worth("7%(0-2)", 1);
        worth("7/0", 0);
        worth("7%0", 0);
        worth("0/0", 0);
        worth("(0-7)/(1-1)", 0);
        worth("1/2", 0);
        worth("9999*9999-9998*9999", 9999);
        risen("9999*9999*9999", 9999 * 9999 * 9999 > 0);
        risen("0-9999*9999*9999", -(9999 * 9999 * 9999) > 0);
        risen("9999*9999*22", 9999 * 9999 * 22 > 0);
        risen(MIN + "<0", true);
        risen(MIN + "=0-" + MIN, true);
        risen(MIN + "/(0-1)=" + MIN, true);
        risen(MIN + "%(0-1)=0", true);
        risen(MIN + "%(0-1)<0", false);
        risen(MIN + "-1>0", true);
        risen(MIN + "-1+1<0", true);
    }

    private static final String FIVE = "kind a;kind b;kind c;person p has a 4 b 9;person q has c 2;person r has b 1;";

    private static void quantity(String formula, int want, int... tellers) {
        SoapWorks x = CHECK.of(FIVE + "rises (" + formula + ")=" + want + ";");
        for (int person : tellers) x.confess(person);
        CHECK.due("rise() by '" + formula + "'", x.rise(), 1);
        CHECK.due("boil() by '" + formula + "'", x.boil(), 1);
        x = CHECK.of(FIVE + "rises not (" + formula + ")=" + want + ";");
        for (int person : tellers) x.confess(person);
        CHECK.due("boil() by not '" + formula + "'", x.boil(), 0);
    }

    private static void quantities() {
        quantity("all", 0);
        quantity("all", 13, 0);
        quantity("all", 16, 0, 1, 2);
        quantity("kinds", 0);
        quantity("kinds", 2, 0);
        quantity("kinds", 3, 0, 1);
        quantity("kinds", 1, 2);
        quantity("most", 0);
        quantity("most", 9, 0);
        quantity("most", 10, 0, 2);
        quantity("most", 2, 1);
        quantity("least", 0);
        quantity("least", 0, 0);
        quantity("least", 2, 0, 1);
        quantity("tellers", 0);
        quantity("tellers", 1, 2);
        quantity("tellers", 3, 0, 1, 2);
        quantity("day", 1);
        quantity("all*100+kinds*10+most-least-tellers", 1328, 0);
        quantity("day*9+tellers", 11, 0, 1);
        // Without KINDS.
        for (String formula : new String[] {"all", "kinds", "most", "least", "tellers"}) worth(formula, 0);
        worth("day", 1);
        // In its first BOILING the day is 1 already, and it goes on.
        SoapWorks x = CHECK.of("rises day>2;");
        CHECK.due("rise()", x.rise(), 3);
        CHECK.due("boil() 1", x.boil(), 0);
        CHECK.due("boil() 2", x.boil(), 0);
        CHECK.due("rise()", x.rise(), 1);
        CHECK.due("boil() 3", x.boil(), 1);
        CHECK.due("boil() 4", x.boil(), 1);
        CHECK.due("about(6)", x.about(6), 2);
    }

    private static void theUntoldFormula() {
        String people = "kind a;kind b;person p has a 20 b 20;person q has a 10;person r has b 1;";
        SoapWorks x = CHECK.of(people);
        x.confess(0);
        x.confess(1);
        CHECK.due("rise() at 50", x.rise(), -1);
        CHECK.due("boil() at 50", x.boil(), 0);
        x.confess(2);
        CHECK.due("rise() at 51", x.rise(), 1);
        CHECK.due("boil() at 51", x.boil(), 1);
        CHECK.vat(x, 0, 0);
        // A formula of one WORKS is gone with it.
        Check.tell(x, "rises 1;");
        CHECK.due("rise() by 1", x.rise(), 1);
        Check.tell(x, people);
        CHECK.due("rise() by all - 50", x.rise(), -1);
    }
}
