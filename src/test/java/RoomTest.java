import java.lang.management.ManagementFactory;
import java.util.Random;

/** All calls of a run live in one room: no call makes anything; and no call throws, whatever it is given. */
public final class RoomTest {
    private static final Check CHECK = new Check("RoomTest");
    private static final com.sun.management.ThreadMXBean THREADS =
            (com.sun.management.ThreadMXBean) ManagementFactory.getThreadMXBean();
    private static final int[] ODD = {Integer.MIN_VALUE, Integer.MIN_VALUE + 1, -1000, -2, -1, 0, 1, 2, 3, 4, 5, 6, 7, 8, 9,
        12, 13, 16, 17, 19, 30, 31, 32, 33, 60, 61, 64, 99, 100, 999, 1000, 1600, 100000, Integer.MAX_VALUE - 1,
        Integer.MAX_VALUE};
    private static final String BUSY = "kind a;kind b;kind c;kind d;kind e;person p has a 20 b 20 c 20 d 20 e 20;"
            + "person q has e 9 a 3;person r has d 8;person s has c 7;person t has b 6;person u has a 5;person v has e 4 b 4;"
            + "boils a b into c 1;boils b c into d 2;boils c d into e 3;boils d e into a 4;boils e e into b 5;boils a c into e 1;"
            + "basin w wants a 5;basin x wants b 5 c 5;basin y wants d 2;basin z wants e 20;"
            + "rises (not not all<0)and day>9000 or(most-least*kinds%7/tellers=9999);scum 55;draw 77;";

    public static void main(String[] args) {
        noCallThrows();
        noCallMakesAnything();
        worksMakesNothing();
        CHECK.close();
    }

    private static void noCallThrows() {
        Random chance = new Random(5);
        for (int round = 0; round < 60; round++) {
            SoapWorks x = round % 3 == 0 ? new SoapWorks() : CHECK.of(round % 3 == 1 ? BUSY : "kind a;person p has a 1;");
            for (int i = 0; i < 500; i++) {
                int call = chance.nextInt(50);
                x.confess(chance.nextInt(9) - 1);
                call(x, call, odd(chance), odd(chance), odd(chance));
            }
        }
        CHECK.due("no call threw", 0, 0);
    }

    private static int odd(Random chance) {
        return ODD[chance.nextInt(ODD.length)];
    }

    private static void noCallMakesAnything() {
        long least = Long.MAX_VALUE;
        // The first rounds load classes and warm up.
        for (int round = 0; round < 5; round++) {
            SoapWorks x = CHECK.of(BUSY);
            long before = THREADS.getCurrentThreadAllocatedBytes();
            for (int i = 0; i < 500; i++) call(x, i % 50, i % 7, i % 5, i % 3);
            least = Math.min(least, THREADS.getCurrentThreadAllocatedBytes() - before);
        }
        CHECK.due("bytes made by 500 calls: " + least, least < 500, true);
    }

    private static void worksMakesNothing() {
        byte[] text = BUSY.getBytes(java.nio.charset.StandardCharsets.ISO_8859_1);
        long least = Long.MAX_VALUE;
        for (int round = 0; round < 5; round++) {
            SoapWorks x = new SoapWorks();
            long before = THREADS.getCurrentThreadAllocatedBytes();
            for (int i = 0; i < 10; i++) {
                Check.put(x, text);
                CHECK.due("works()", x.works(), 7);
            }
            least = Math.min(least, THREADS.getCurrentThreadAllocatedBytes() - before);
        }
        CHECK.due("bytes made by ten works(): " + least, least < 1000, true);
    }

    private static void call(SoapWorks x, int call, int a, int b, int c) {
        switch (call) {
            case 0 -> x.feed(a, b, c, a, b);
            case 1 -> x.end(a);
            case 2 -> x.fault(a);
            case 3 -> x.vat(a);
            case 4 -> x.mind(a, b);
            case 5 -> x.wants(a, b);
            case 6 -> x.rule(a, b);
            case 7 -> x.confess(a);
            case 8 -> x.boil();
            case 9 -> x.wash(a);
            case 10 -> x.sweep(a);
            case 11 -> x.undo();
            case 12 -> x.redo();
            case 13 -> x.will(a, b, c);
            case 14 -> x.rise();
            case 15 -> x.rouser(a);
            case 16 -> x.choir(a, b);
            case 17 -> x.power(a);
            case 18 -> x.serve(a);
            case 19 -> x.balm(a, b);
            case 20 -> x.cook(a);
            case 21 -> x.lacks(a);
            case 22 -> x.rest();
            case 23 -> x.order(a);
            case 24 -> x.comes(a);
            case 25 -> x.steps(a, b);
            case 26 -> x.duel(a, b);
            case 27 -> x.nearest();
            case 28 -> x.wanted(a);
            case 29 -> x.sinners(a);
            case 30 -> x.inert();
            case 31 -> x.alive();
            case 32 -> x.thickest();
            case 33 -> x.thinnest();
            case 34 -> x.makers(a);
            case 35 -> x.heaviest();
            case 36 -> x.law(a);
            case 37 -> x.mission();
            case 38 -> x.odds(a, b);
            case 39 -> x.lies(a);
            case 40 -> x.seen(a, b, c, a > b);
            case 41 -> x.untell(a);
            case 42 -> x.later(a);
            case 43 -> x.fits(a);
            case 44 -> x.sure(a, b);
            case 45 -> x.ask(a, b, c);
            case 46 -> x.image(a);
            case 47 -> x.back(a);
            case 48 -> x.about(a);
            default -> x.works();
        }
    }
}
