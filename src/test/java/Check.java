import java.nio.charset.StandardCharsets;

/** What every test uses: it counts the answers that are not the ones due, and puts texts on a TAPE. */
final class Check {
    private final String test;
    private String within = "";
    private int wrong;
    private int asked;

    Check(String test) {
        this.test = test;
    }

    /** Where the answers that follow belong, told with those that are wrong. */
    void within(String place) {
        within = place.isEmpty() ? "" : place + ": ";
    }

    void due(String call, int got, int want) {
        asked++;
        if (got == want) return;
        wrong++;
        System.out.println(test + ": " + within + call + " answered " + got + ", due is " + want);
    }

    void due(String call, boolean got, boolean want) {
        due(call, got ? 1 : 0, want ? 1 : 0);
    }

    /** Puts a text on the TAPE, which must be empty, and reads it. */
    static int tell(SoapWorks x, String text) {
        put(x, text.getBytes(StandardCharsets.ISO_8859_1));
        return x.works();
    }

    static void put(SoapWorks x, byte[] text) {
        for (int from = 0; from < text.length; from += 20) {
            x.feed(four(text, from), four(text, from + 4), four(text, from + 8), four(text, from + 12),
                    four(text, from + 16));
        }
        x.end(text.length);
    }

    private static int four(byte[] text, int from) {
        int number = 0;
        for (int i = from; i < from + 4; i++) number = number << 8 | (i < text.length ? text[i] & 255 : 0);
        return number;
    }

    /** A new object with this WORKS; a text that can't be read is the test's own fault. */
    SoapWorks of(String text) {
        SoapWorks x = new SoapWorks();
        if (tell(x, text) < 0) {
            wrong++;
            System.out.println(test + ": " + within + "'" + text + "' has fault " + x.fault(0) + " at " + x.fault(1));
        }
        return x;
    }

    /** A text that can't be read: its FAULT and its place, and that it answers NONE. */
    void faulty(String text, int fault, int place) {
        SoapWorks x = new SoapWorks();
        due("works() of '" + text + "'", tell(x, text), -1);
        due("fault(0) of '" + text + "'", x.fault(0), fault);
        due("fault(1) of '" + text + "'", x.fault(1), place);
    }

    /** A text that can be read, with so many PEOPLE. */
    void sound(String text, int people) {
        SoapWorks x = new SoapWorks();
        due("works() of '" + text + "'", tell(x, text), people);
        due("fault(0) of '" + text + "'", x.fault(0), 0);
        due("fault(1) of '" + text + "'", x.fault(1), -1);
    }

    void vat(SoapWorks x, int... much) {
        for (int kind = 0; kind < much.length; kind++) due("vat(" + kind + ")", x.vat(kind), much[kind]);
    }

    void lies(SoapWorks x, int... numbers) {
        due("about(15)", x.about(15), numbers.length);
        for (int i = 0; i < numbers.length; i++) due("lies(" + i + ")", x.lies(i), numbers[i]);
        due("lies(-1)", x.lies(-1), -2);
        due("lies(" + numbers.length + ")", x.lies(numbers.length), -2);
    }

    void close() {
        System.out.println(test + ": " + asked + " answers, " + wrong + " not as due");
        if (wrong > 0) System.exit(1);
    }
}
