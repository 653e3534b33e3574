/** Promises 1 to 5: a new object, feed, end, works, fault. */
public final class TapeTest {
    private static final Check CHECK = new Check("TapeTest");
    private static final String SMALL = "kind a;kind b;person p has a 3;person q has b 4;basin x wants a 1;"
            + "boils a b into a 2;rises day=2;scum 7;draw 12;";

    public static void main(String[] args) {
        newObject();
        feedCounts();
        feedPutsTheHighestByteFirst();
        endCuts();
        worksBeginsAnew();
        worksWithAFaultLeavesAll();
        faultIsOfTheLatest();
        CHECK.close();
    }

    private static void newObject() {
        SoapWorks x = new SoapWorks();
        for (int what = 0; what <= 16; what++) CHECK.due("about(" + what + ") of a new one", x.about(what), 0);
        CHECK.due("fault(0)", x.fault(0), 0);
        CHECK.due("fault(1)", x.fault(1), -1);
        CHECK.due("vat(0)", x.vat(0), -1);
        CHECK.due("mind(0, 0)", x.mind(0, 0), -1);
        CHECK.due("wants(0, 0)", x.wants(0, 0), -1);
        CHECK.due("rule(0, 0)", x.rule(0, 0), -1);
        CHECK.due("undo()", x.undo(), false);
        CHECK.due("redo()", x.redo(), false);
        CHECK.due("back(0)", x.back(0), -1);
        CHECK.due("lies(0)", x.lies(0), -2);
        CHECK.due("works() of nothing", x.works(), 0);
        CHECK.due("fault(0)", x.fault(0), 0);
        CHECK.due("boil()", x.boil(), 0);
        CHECK.due("about(8): 0 * 137 + 71", x.about(8), 71);
    }

    private static void feedCounts() {
        SoapWorks x = new SoapWorks();
        for (int i = 1; i <= 80; i++) CHECK.due("feed", x.feed(0, 0, 0, 0, 0), i * 20);
        CHECK.due("feed beyond 1600", x.feed(0, 0, 0, 0, 0), -1);
        CHECK.due("about(13)", x.about(13), 1600);
        CHECK.due("end(1581)", x.end(1581), 1581);
        CHECK.due("feed beyond 1600 by one", x.feed(0, 0, 0, 0, 0), -1);
        CHECK.due("about(13)", x.about(13), 1581);
        CHECK.due("end(1580)", x.end(1580), 1580);
        CHECK.due("feed up to 1600", x.feed(0, 0, 0, 0, 0), 1600);
    }

    private static void feedPutsTheHighestByteFirst() {
        SoapWorks x = new SoapWorks();
        // "kind" " a ;" "scum" " 10;" "draw"
        CHECK.due("feed", x.feed(0x6b696e64, 0x2061203b, 0x7363756d, 0x2031303b, 0x64726177), 20);
        CHECK.due("feed", x.feed(0x20373b20, 0x20202020, 0x20202020, 0x20202020, 0x20202020), 40);
        CHECK.due("works()", x.works(), 0);
        CHECK.due("about(1)", x.about(1), 1);
        CHECK.due("about(16)", x.about(16), 10);
        CHECK.due("about(8)", x.about(8), 7);
        // Numbers below 0 have their bytes too: blank, blank, blank, 255 is the first that is no TOKEN.
        x.feed(0x202020ff, -1, Integer.MIN_VALUE, 0, 0);
        CHECK.due("works()", x.works(), -1);
        CHECK.due("fault(0)", x.fault(0), 1);
        CHECK.due("fault(1)", x.fault(1), 3);
        x.feed(0x20202020, 0x0a0a0a0a, Integer.MIN_VALUE, 0, 0);
        CHECK.due("works()", x.works(), -1);
        CHECK.due("fault(1)", x.fault(1), 8);
    }

    private static void endCuts() {
        SoapWorks x = new SoapWorks();
        CHECK.due("end(0) of an empty TAPE", x.end(0), 0);
        CHECK.due("end(1) of an empty TAPE", x.end(1), -1);
        x.feed(0x6b696e64, 0x20613b6b, 0, 0, 0);
        CHECK.due("end(21)", x.end(21), -1);
        CHECK.due("end(-1)", x.end(-1), -1);
        CHECK.due("end(least)", x.end(Integer.MIN_VALUE), -1);
        CHECK.due("end(most)", x.end(Integer.MAX_VALUE), -1);
        CHECK.due("about(13)", x.about(13), 20);
        CHECK.due("end(20)", x.end(20), 20);
        CHECK.due("end(7)", x.end(7), 7);
        CHECK.due("about(13)", x.about(13), 7);
        CHECK.due("end(8): gone is gone", x.end(8), -1);
        // What comes then comes behind the seventh: "kind a;" "kind b;"
        CHECK.due("feed", x.feed(0x6b696e64, 0x20623b20, 0x20202020, 0x20202020, 0x20202020), 27);
        CHECK.due("works()", x.works(), 0);
        CHECK.due("about(1)", x.about(1), 2);
        CHECK.due("about(13): empty then", x.about(13), 0);
        CHECK.due("end(1)", x.end(1), -1);
        // What was behind the end is not read, be it the rest of a word, of a number, or a letter behind one.
        cut("kind ab", 6, 2, 6);
        cut("kind abcdefghi", 13, 2, 13);
        cut("scum 1234", 6, 2, 6);
        cut("scum 100000", 8, 2, 8);
        cut("scum 1a", 6, 2, 6);
        cut("scum 1 ", 6, 2, 6);
        cut("scum 1;$", 7, 0, -1);
    }

    private static void cut(String text, int n, int fault, int place) {
        SoapWorks x = new SoapWorks();
        Check.put(x, text.getBytes(java.nio.charset.StandardCharsets.ISO_8859_1));
        CHECK.due("end(" + n + ")", x.end(n), n);
        CHECK.due("works() of '" + text + "' up to " + n, x.works(), fault == 0 ? 0 : -1);
        CHECK.due("fault(0) of '" + text + "' up to " + n, x.fault(0), fault);
        CHECK.due("fault(1) of '" + text + "' up to " + n, x.fault(1), place);
    }

    /** A works in which something of every sort has been done. */
    private static SoapWorks usedOne() {
        SoapWorks x = CHECK.of(SMALL);
        x.confess(0);
        x.boil();
        x.boil();
        x.confess(1);
        x.undo();
        for (int box = 0; box < 3; box++) x.image(box);
        x.later(5);
        x.seen(0, 0, 2, true);
        x.order(0);
        return x;
    }

    private static void worksBeginsAnew() {
        SoapWorks x = usedOne();
        CHECK.due("about(6)", x.about(6), 1);
        CHECK.due("about(7)", x.about(7), 2);
        CHECK.due("about(9)", x.about(9), 3);
        CHECK.due("about(10)", x.about(10), 1);
        CHECK.due("about(11)", x.about(11), 1);
        CHECK.due("about(15)", x.about(15), 1);
        CHECK.due("works()", Check.tell(x, "kind c;person z has c 2;draw 5;"), 1);
        int[] due = {1, 1, 0, 0, 0, 0, 0, 0, 5, 0, 0, 0, 5, 0, 0, 0, 0};
        for (int what = 0; what < due.length; what++) CHECK.due("about(" + what + ")", x.about(what), due[what]);
        CHECK.vat(x, 0);
        CHECK.due("vat(1)", x.vat(1), -1);
        CHECK.due("mind(0, 0)", x.mind(0, 0), 2);
        CHECK.due("undo()", x.undo(), false);
        CHECK.due("redo()", x.redo(), false);
        for (int box = 0; box < 3; box++) CHECK.due("back(" + box + ")", x.back(box), -1);
        CHECK.due("untell(0)", x.untell(0), false);
        CHECK.due("lies(0)", x.lies(0), -2);
        CHECK.due("fits(5)", x.fits(5), 31);
        CHECK.due("confess(0)", x.confess(0), 2);
        // The same text once more: what was SEEN and known of the old one is gone, too.
        CHECK.due("works()", Check.tell(x, SMALL), 2);
        CHECK.due("seen", x.seen(0, 1, 9, true), 0);
        CHECK.due("sure(0, 5)", x.sure(0, 5), 9);
        CHECK.due("wants(0, 0)", x.wants(0, 0), 1);
        CHECK.due("wants(0, 1)", x.wants(0, 1), 0);
    }

    private static void worksWithAFaultLeavesAll() {
        SoapWorks x = usedOne();
        int[] before = new int[17];
        for (int what = 0; what < 17; what++) before[what] = x.about(what);
        CHECK.due("works()", Check.tell(x, "kind z;person y has z 1;rises 1+1+1;scum 5;draw 8;kind z;"), -1);
        CHECK.due("fault(0)", x.fault(0), 3);
        CHECK.due("fault(1)", x.fault(1), 55);
        for (int what = 0; what < 17; what++) CHECK.due("about(" + what + ")", x.about(what), before[what]);
        CHECK.due("about(13): empty then, too", x.about(13), 0);
        CHECK.due("mind(1, 1)", x.mind(1, 1), 4);
        CHECK.due("wants(0, 0)", x.wants(0, 0), 1);
        CHECK.due("rule(0, 3)", x.rule(0, 3), 2);
        CHECK.lies(x, 0);
        CHECK.due("fits(5)", x.fits(5), 31);
        CHECK.due("redo()", x.redo(), true);
        CHECK.due("back(1)", x.back(1), 2);
        // Two in a row, and then a sound one: nothing of those that failed is left in it.
        CHECK.due("works()", Check.tell(x, "kind z;person y has z 1;basin b wants z 3;boils z z into z 1;scum 5;draw 8;$"), -1);
        CHECK.due("works()", Check.tell(x, "kind z;kind y;person y has y 1;basin b wants y 1;"), 1);
        CHECK.due("mind(0, 0)", x.mind(0, 0), 0);
        CHECK.due("mind(0, 1)", x.mind(0, 1), 1);
        CHECK.due("wants(0, 0)", x.wants(0, 0), 0);
        CHECK.due("about(2)", x.about(2), 0);
        CHECK.due("about(8)", x.about(8), 0);
        CHECK.due("about(14)", x.about(14), 0);
        CHECK.due("about(16)", x.about(16), 0);
    }

    private static void faultIsOfTheLatest() {
        SoapWorks x = new SoapWorks();
        Check.tell(x, "kind a;kind a;");
        CHECK.due("fault(0)", x.fault(0), 3);
        CHECK.due("fault(1)", x.fault(1), 12);
        CHECK.due("fault(2)", x.fault(2), -1);
        CHECK.due("fault(-1)", x.fault(-1), -1);
        Check.tell(x, "kind a");
        CHECK.due("fault(0)", x.fault(0), 2);
        CHECK.due("fault(1)", x.fault(1), 6);
        Check.tell(x, "kind a;");
        CHECK.due("fault(0)", x.fault(0), 0);
        CHECK.due("fault(1)", x.fault(1), -1);
    }
}
