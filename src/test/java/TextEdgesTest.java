import java.io.IOException;
import java.nio.charset.StandardCharsets;
import java.util.function.Supplier;

/** The edges of the TAPE and of the text: promises 1 to 5, and Terms, part 1, a test for each sentence. */
public final class TextEdgesTest {
    private static final Check CHECK = new Check("TextEdgesTest");
    private static final int[] FAR_OFF = {Integer.MIN_VALUE, -2, 1601, Integer.MAX_VALUE};
    private static final int BLANKS = 0x20202020;
    private static final String ONE = "kind a;";
    private static final String FIVE = "kind a;kind b;kind c;kind d;kind e;";
    private static final String[] OWN_WORDS = {"kind", "person", "has", "boils", "into", "basin", "wants", "rises", "scum",
        "draw", "or", "and", "not", "all", "kinds", "most", "least", "tellers", "day"};

    private final Edges edges;

    private TextEdgesTest() throws IOException {
        edges = new Edges(CHECK);
    }

    public static void main(String[] args) throws IOException {
        TextEdgesTest test = new TextEdgesTest();
        test.tape();
        test.works();
        test.tokens();
        test.limits();
        test.formulas();
        test.faults();
        test.edges.covers(1, 5);
        CHECK.close();
    }

    private void terms(String sentence, Runnable test) {
        edges.edge("Terms", sentence, test);
    }

    // ---- promises 1 to 5

    private void tape() {
        terms("The constants: `NONE = -1`: There is none.", () -> CHECK.due("NONE", SoapWorks.NONE, -1));
        edges.edge("Promise 1: A new object", "An empty WORKS.", TextEdgesTest::aNewObject);
        edges.edge("Promise 2: feed", "Twenty bytes come behind those on the TAPE, of each number the highest first: how many there are",
                TextEdgesTest::everyByteHasItsPlace);
        edges.edge("Promise 2: feed", "NONE, and nothing comes, if there would be more than 1,600.", TextEdgesTest::theTapeIsFull);
        edges.edge("Promise 3: end", "The TAPE has its first n bytes: n", TextEdgesTest::theTapeIsCut);
        edges.edge("Promise 3: end", "NONE, doing nothing, if it has not so many, or n is below 0.", this::endIsRefused);
    }

    private static void aNewObject() {
        SoapWorks x = new SoapWorks();
        for (int what = 0; what <= 16; what++) CHECK.due("about(" + what + ")", x.about(what), 0);
        CHECK.due("vat(0)", x.vat(0), -1);
        CHECK.due("mind(0, 0)", x.mind(0, 0), -1);
        CHECK.due("wants(0, 0)", x.wants(0, 0), -1);
        CHECK.due("rule(0, 0)", x.rule(0, 0), -1);
        CHECK.due("confess(0)", x.confess(0), -1);
        CHECK.due("wash(0)", x.wash(0), -1);
        CHECK.due("sweep(0)", x.sweep(0), -1);
        CHECK.due("undo()", x.undo(), false);
        CHECK.due("redo()", x.redo(), false);
        CHECK.due("lies(0)", x.lies(0), -2);
        for (int box = 0; box < 3; box++) CHECK.due("back(" + box + ")", x.back(box), -1);
        CHECK.due("untell(0)", x.untell(0), false);
        CHECK.due("odds(4, 0)", x.odds(4, 0), 1);
        CHECK.due("boil()", x.boil(), 0);
        CHECK.due("about(8): of a draw of 0", x.about(8), 71);
        CHECK.due("end(0)", x.end(0), 0);
        CHECK.due("end(1)", x.end(1), -1);
    }

    /** A byte that is no TOKEN among blanks: the FAULT's place says where it came to be. */
    private static void everyByteHasItsPlace() {
        for (int at = 0; at < 40; at++) {
            SoapWorks x = new SoapWorks();
            byte[] bytes = " ".repeat(40).getBytes(StandardCharsets.ISO_8859_1);
            bytes[at] = (byte) (at % 2 == 0 ? '$' : 255);
            for (int from = 0; from < 40; from += 20) {
                int[] five = new int[5];
                java.nio.ByteBuffer.wrap(bytes, from, 20).asIntBuffer().get(five);
                CHECK.due("feed", x.feed(five[0], five[1], five[2], five[3], five[4]), from + 20);
            }
            CHECK.due("works() with a bad byte at " + at, x.works(), -1);
            CHECK.due("fault(0) with a bad byte at " + at, x.fault(0), 1);
            CHECK.due("fault(1) with a bad byte at " + at, x.fault(1), at);
        }
        SoapWorks letters = new SoapWorks();
        letters.feed(0x6b696e64, 0x20616263, 0x64656667, 0x683b6b69, 0x6e642062);
        letters.feed(0x3b202020, BLANKS, BLANKS, BLANKS, BLANKS);
        CHECK.due("works() of 'kind abcdefgh;kind b;'", letters.works(), 0);
        CHECK.due("about(1)", letters.about(1), 2);
    }

    private static SoapWorks withBlanks(int feeds) {
        SoapWorks x = new SoapWorks();
        for (int i = 0; i < feeds; i++) x.feed(BLANKS, BLANKS, BLANKS, BLANKS, BLANKS);
        return x;
    }

    private static void theTapeIsFull() {
        SoapWorks full = withBlanks(79);
        CHECK.due("feed up to 1,600", full.feed(BLANKS, BLANKS, BLANKS, BLANKS, BLANKS), 1600);
        CHECK.due("feed beyond 1,600", full.feed(-1, -1, -1, -1, -1), -1);
        CHECK.due("about(13)", full.about(13), 1600);
        CHECK.due("works() of 1,600 blanks", full.works(), 0);
        for (int n = 1579; n <= 1600; n++) {
            SoapWorks x = withBlanks(80);
            x.end(n);
            boolean fits = n <= 1580;
            CHECK.due("feed behind " + n, x.feed(-1, -1, -1, -1, -1), fits ? n + 20 : -1);
            CHECK.due("about(13)", x.about(13), fits ? n + 20 : n);
            CHECK.due("works(): what was refused is not on it", x.works(), fits ? -1 : 0);
            CHECK.due("fault(1)", x.fault(1), fits ? n : -1);
        }
    }

    private static void theTapeIsCut() {
        byte[] text = "kind a;kind b;scum 7".getBytes(StandardCharsets.ISO_8859_1);
        for (int n = 0; n <= 20; n++) {
            SoapWorks x = new SoapWorks();
            Check.put(x, text);
            CHECK.due("end(" + n + ")", x.end(n), n);
            CHECK.due("about(13)", x.about(13), n);
            CHECK.due("end(" + (n + 1) + ") behind end(" + n + ")", x.end(n + 1), -1);
            CHECK.due("end(" + n + ") again", x.end(n), n);
            // What comes then comes behind these: a ; ends the line that was begun, if it can.
            CHECK.due("feed", x.feed(0x3b202020, BLANKS, BLANKS, BLANKS, BLANKS), n + 20);
            int sound = n == 6 ? 1 : n == 13 ? 2 : n == 20 ? 2 : -1;
            CHECK.due("works() of " + n, x.works(), sound < 0 ? -1 : 0);
            if (sound > 0) CHECK.due("about(1) of " + n, x.about(1), sound);
            CHECK.due("about(16) of " + n, x.about(16), n == 20 ? 7 : 0);
        }
    }

    private void endIsRefused() {
        Supplier<SoapWorks> fed = () -> {
            SoapWorks x = new SoapWorks();
            x.feed(0x6b696e64, 0x20613b6b, 0x696e6420, 0x623b2020, BLANKS);
            return x;
        };
        edges.refused(fed, "end(21)", x -> x.end(21));
        edges.refused(fed, "end(-1)", x -> x.end(-1));
        for (int off : FAR_OFF) edges.refused(fed, "end(" + off + ")", x -> x.end(off));
        edges.refused(SoapWorks::new, "end(1) of an empty TAPE", x -> x.end(1));
        edges.refused(() -> withBlanks(80), "end(1601) of a full one", x -> x.end(1601));
        CHECK.due("end(1600) of a full one", withBlanks(80).end(1600), 1600);
        CHECK.due("end(0) of a full one", withBlanks(80).end(0), 0);
    }

    private static final String USED = "kind a;kind b;person p has a 6 b 2;person q has b 5 a 1;boils a b into a 1;boils b b into b 2;"
            + "basin x wants a 2;basin y wants b 1;rises day=2;scum 100;draw 12;";

    /** One in which something of every sort has been done: day 2, the STREET had it once, an ACT can be redone. */
    private static SoapWorks used() {
        SoapWorks x = CHECK.of(USED);
        x.confess(0);
        x.wash(0);
        x.boil();
        x.boil();
        x.confess(1);
        for (int box = 0; box < 3; box++) x.image(box);
        x.boil();
        x.undo();
        x.later(5);
        x.seen(0, 0, 9, true);
        x.seen(0, 0, 12, true);
        x.untell(1);
        x.order(1);
        return x;
    }

    private void works() {
        String works = "Promise 4: works";
        edges.edge(works, "The TAPE (empty then) is the WORKS", TextEdgesTest::theTapeIsEmptyThen);
        edges.edge(works, "(all as told, the VAT empty, day 0, no ACTS are kept, nothing is SEEN, nothing lies there, BOXES are"
                + " empty then; the TIME stays)", TextEdgesTest::worksBeginsAnew);
        edges.edge(works, "how many PEOPLE", TextEdgesTest::worksCountsPeople);
        edges.edge(works, "NONE: a FAULT (all stays).", this::aFaultLeavesAll);
        edges.edge("Promise 5: fault", "Of the latest works() what 0: its FAULT (0), 1: its place (NONE).", TextEdgesTest::ofTheLatest);
        edges.edge("Promise 5: fault", "NONE for another what.", TextEdgesTest::noOtherWhat);
    }

    private static void theTapeIsEmptyThen() {
        SoapWorks x = CHECK.of(USED);
        CHECK.due("about(13)", x.about(13), 0);
        CHECK.due("end(1)", x.end(1), -1);
        CHECK.due("works() of the empty TAPE", x.works(), 0);
        CHECK.due("about(1) of the empty WORKS", x.about(1), 0);
        CHECK.due("works() of a bad one", Check.tell(x, "kind"), -1);
        CHECK.due("about(13) behind a FAULT", x.about(13), 0);
        CHECK.due("works() behind a FAULT", x.works(), 0);
        CHECK.due("feed", x.feed(BLANKS, BLANKS, BLANKS, BLANKS, BLANKS), 20);
    }

    private static void worksBeginsAnew() {
        SoapWorks x = used();
        int[] before = {2, 2, 2, 2, 3, 1, 1, 2, -1, 5, 1, 2, 5, 0, 2, 2, 100};
        for (int what = 0; what <= 16; what++) if (what != 8) CHECK.due("about(" + what + ") before", x.about(what), before[what]);
        CHECK.due("works()", Check.tell(x, "kind a;kind b;person p has a 6 b 2;basin x wants a 2;draw 7;"), 1);
        int[] then = {1, 2, 0, 1, 0, 0, 0, 0, 7, 0, 0, 0, 5, 0, 0, 0, 0};
        for (int what = 0; what <= 16; what++) CHECK.due("about(" + what + ") then", x.about(what), then[what]);
        CHECK.vat(x, 0, 0);
        CHECK.due("undo()", x.undo(), false);
        CHECK.due("redo()", x.redo(), false);
        CHECK.due("untell(0)", x.untell(0), false);
        CHECK.due("fits(5)", x.fits(5), 31);
        CHECK.due("lies(0)", x.lies(0), -2);
        for (int box = 0; box < 3; box++) CHECK.due("back(" + box + ")", x.back(box), -1);
        CHECK.due("confess(0)", x.confess(0), 8);
        CHECK.due("wash(0)", x.wash(0), 6);
        CHECK.due("seen: numbers begin anew", x.seen(0, 0, 0, true), 0);
        // The same text again is a new WORKS, too.
        CHECK.due("works()", Check.tell(x, "kind a;kind b;person p has a 6 b 2;basin x wants a 2;draw 7;"), 1);
        for (int what = 0; what <= 16; what++) CHECK.due("about(" + what + ") again", x.about(what), then[what]);
    }

    private static void worksCountsPeople() {
        StringBuilder text = new StringBuilder("kind a;");
        for (int people = 0; people <= 7; people++) {
            CHECK.sound(text.toString(), people);
            text.append("person ").append((char) ('a' + people)).append(" has a 1;");
        }
    }

    private void aFaultLeavesAll() {
        String[] bad = {"$", "kind a;kind a;", USED + "kind a;", USED + "scum 1;", "kind z;person y has z 1;rises 1+1+1;scum 5;draw 8;kind z;",
            "kind z;person y has z 20;basin b wants z 3;boils z z into z 9;rises (1", "draw 1000;", "kind a;person p has b 1;"};
        for (String text : bad) {
            SoapWorks x = used();
            SoapWorks twin = used();
            CHECK.due("works() of '" + text + "'", Check.tell(x, text), -1);
            for (int what = 0; what <= 16; what++) CHECK.due("about(" + what + ") behind '" + text + "'", x.about(what), twin.about(what));
            for (int kind = 0; kind < 3; kind++) {
                CHECK.due("vat(" + kind + ")", x.vat(kind), twin.vat(kind));
                for (int i = 0; i < 3; i++) {
                    CHECK.due("mind(" + i + ", " + kind + ")", x.mind(i, kind), twin.mind(i, kind));
                    CHECK.due("wants(" + i + ", " + kind + ")", x.wants(i, kind), twin.wants(i, kind));
                    CHECK.due("rule(" + i + ", " + kind + ")", x.rule(i, kind), twin.rule(i, kind));
                }
            }
            CHECK.lies(x, 0, 1);
            CHECK.due("fits(5)", x.fits(5), twin.fits(5));
            CHECK.due("rise()", x.rise(), twin.rise());
            CHECK.due("redo()", x.redo(), true);
            for (int i = 0; i < 6; i++) CHECK.due("undo() " + i, x.undo(), true);
            CHECK.due("undo() 6", x.undo(), false);
            for (int box = 0; box < 3; box++) CHECK.due("back(" + box + ")", x.back(box), 2);
            // And nothing of what failed is left in the next one that is sound.
            CHECK.due("works()", Check.tell(x, "kind z;kind y;person y has y 1;basin b wants y 1;"), 1);
            int[] then = {1, 2, 0, 1, 0, 0, 0, 0, 0, 0, 0, 0, 5, 0, 0, 0, 0};
            for (int what = 0; what <= 16; what++) CHECK.due("about(" + what + ") of the next one", x.about(what), then[what]);
            CHECK.due("mind(0, 0) of the next one", x.mind(0, 0), 0);
            CHECK.due("wants(0, 0) of the next one", x.wants(0, 0), 0);
        }
    }

    private static void ofTheLatest() {
        SoapWorks x = new SoapWorks();
        String[] texts = {"kind a;kind a;", "kind a;", "kind", "", "$", "kind a;person p has z", "scum 101;", "scum 100;"};
        int[][] due = {{3, 12}, {0, -1}, {2, 4}, {0, -1}, {1, 0}, {5, 20}, {4, 5}, {0, -1}};
        CHECK.due("fault(0) before any", x.fault(0), 0);
        CHECK.due("fault(1) before any", x.fault(1), -1);
        for (int i = 0; i < texts.length; i++) {
            Check.tell(x, texts[i]);
            CHECK.due("fault(0) of '" + texts[i] + "'", x.fault(0), due[i][0]);
            CHECK.due("fault(1) of '" + texts[i] + "'", x.fault(1), due[i][1]);
            Check.put(x, "$".getBytes(StandardCharsets.ISO_8859_1));
            CHECK.due("fault(0) when the next is not yet read", x.fault(0), due[i][0]);
            CHECK.due("fault(1) when the next is not yet read", x.fault(1), due[i][1]);
            x.end(0);
        }
    }

    private static void noOtherWhat() {
        SoapWorks x = new SoapWorks();
        Check.tell(x, "kind a;kind a;");
        for (int what : new int[] {-1, 2, 3, Integer.MIN_VALUE, Integer.MAX_VALUE}) CHECK.due("fault(" + what + ")", x.fault(what), -1);
    }

    // ---- Terms, part 1: the TOKENS

    private void tokens() {
        terms("A WORKS is a text of at most 1,600 bytes (empty at first)", TextEdgesTest::asLongAsATextCanBe);
        terms("works = {line}", TextEdgesTest::linesOrNone);
        terms("line = kind NAME ; | person NAME has NAME N {NAME N} ; | boils NAME NAME into NAME N ; | basin NAME wants NAME N {NAME N} ;"
                + " | rises e ; | scum N ; | draw N ;.", TextEdgesTest::linesOfEachSort);
        terms("words (a .. z, 8 at most)", TextEdgesTest::words);
        terms("N (1 to 4 digits)", TextEdgesTest::numbers);
        terms("signs ; ( ) < > = + - * / %", TextEdgesTest::signs);
        terms("blanks (32, 10) part them or not", TextEdgesTest::blanks);
        terms("each is as long as can be", TextEdgesTest::asLongAsCanBe);
        terms("no letter directly behind an N", TextEdgesTest::noLetterBehind);
        terms("Words that stand for themselves here are no NAMES.", TextEdgesTest::noNames);
    }

    private static void asLongAsATextCanBe() {
        CHECK.sound("", 0);
        CHECK.sound(" ".repeat(1593) + "kind a;", 0);
        CHECK.sound("kind" + " ".repeat(1594) + "a;", 0);
        CHECK.faulty(" ".repeat(1594) + "kind a", 2, 1600);
        CHECK.faulty(" ".repeat(1599) + "$", 1, 1599);
        CHECK.faulty(" ".repeat(1600 - 13) + "kind a;kind a", 3, 1599);
        SoapWorks x = CHECK.of("kind" + "\n".repeat(1594) + "a;");
        CHECK.due("about(1)", x.about(1), 1);
        CHECK.faulty(";".repeat(1600), 2, 0);
        CHECK.faulty("9".repeat(1600), 1, 0);
        CHECK.faulty("z".repeat(1600), 1, 0);
        CHECK.faulty("rises " + "(".repeat(1594), 2, 13);
    }

    private static void linesOrNone() {
        CHECK.sound("", 0);
        CHECK.sound("draw 1;", 0);
        CHECK.sound("draw 1;scum 2;rises 3;kind a;basin b wants a 1;boils a a into a 1;person p has a 1;kind c;", 1);
        CHECK.faulty(";", 2, 0);
        CHECK.faulty("draw 1;;", 2, 7);
        CHECK.faulty("draw 1", 2, 6);
    }

    /** Each without one of its TOKENS, and with one of them twice. */
    private static void linesOfEachSort() {
        String before = "kind a ; kind b ; ";
        String[] lines = {"kind c ;", "person p has a 1 b 2 ;", "boils a b into a 1 ;", "basin p wants a 1 b 2 ;", "rises 1 ;", "scum 1 ;", "draw 1 ;"};
        for (String line : lines) {
            CHECK.sound(before + line, line.startsWith("person") ? 1 : 0);
            String[] tokens = line.split(" ");
            for (int left = 0; left < tokens.length; left++) {
                StringBuilder without = new StringBuilder(before);
                StringBuilder twice = new StringBuilder(before);
                for (int i = 0; i < tokens.length; i++) {
                    if (i != left) without.append(tokens[i]).append(' ');
                    twice.append(tokens[i]).append(i == left ? " " + tokens[i] + " " : " ");
                }
                CHECK.due("works() of '" + without + "'", Check.tell(new SoapWorks(), without.toString()), -1);
                CHECK.due("works() of '" + twice + "'", Check.tell(new SoapWorks(), twice.toString()), -1);
            }
        }
    }

    private static void words() {
        for (String word : new String[] {"a", "z", "az", "za", "aaaaaaaa", "zzzzzzzz", "abcdefgh"}) {
            CHECK.sound("kind " + word + ";", 0);
            CHECK.faulty("kind " + word + ";kind " + word + ";", 3, 11 + word.length());
        }
        CHECK.faulty("kind aaaaaaaaa;", 1, 5);
        CHECK.faulty("kind zzzzzzzzz", 1, 5);
        CHECK.faulty("kind `;", 1, 5);
        CHECK.faulty("kind {;", 1, 5);
        CHECK.faulty("kind A;", 1, 5);
        CHECK.faulty("kind Z;", 1, 5);
        CHECK.faulty("kind a`;", 1, 6);
        CHECK.faulty("kind z{;", 1, 6);
        // No two of these are one word, however alike they look.
        String[] alike = {"a", "aa", "aaa", "aaaaaaaa", "aaaaaaab", "baaaaaaa", "zzzzzzzz", "zzzzzzzy", "yzzzzzzz", "az", "za", "b", "bb", "ab", "ba", "z",
            "zz", "y", "yz"};
        for (String one : alike) {
            for (String other : alike) {
                if (!one.equals(other)) CHECK.sound("kind " + one + ";kind " + other + ";", 0);
            }
        }
    }

    private static void numbers() {
        for (String n : new String[] {"0", "9", "00", "0000", "0100"}) CHECK.sound("scum " + n + ";", 0);
        CHECK.sound("rises 9999;", 0);
        CHECK.sound("rises 0000;", 0);
        CHECK.faulty("rises 00000;", 1, 6);
        CHECK.faulty("rises 10000;", 1, 6);
        CHECK.faulty("rises 99999", 1, 6);
        CHECK.faulty("scum 00001;", 1, 5);
        CHECK.faulty("scum 4294967297;", 1, 5);
        CHECK.faulty("scum ;", 2, 5);
        CHECK.faulty("scum :;", 1, 5);
        CHECK.faulty("scum /;", 2, 5);
        CHECK.faulty("scum 9:;", 1, 6);
        SoapWorks x = CHECK.of("draw 0012;scum 0100;");
        CHECK.due("about(8) of 'draw 0012'", x.about(8), 12);
        CHECK.due("about(16) of 'scum 0100'", x.about(16), 100);
    }

    private static void signs() {
        for (int c = 0; c < 256; c++) {
            if (c == 32 || c == 10) continue;
            boolean isToken = c >= 'a' && c <= 'z' || c >= '0' && c <= '9' || ";()<>=+-*/%".indexOf(c) >= 0;
            CHECK.faulty("kind a;" + (char) c, isToken ? 2 : 1, 7);
        }
        for (char sign : "<>=+-*/%".toCharArray()) CHECK.sound("rises (1)" + sign + "(2);", 0);
    }

    private static void blanks() {
        CHECK.sound("scum5;draw6;rises(all)>(7);", 0);
        CHECK.sound(" \nscum\n\n5 \n ;\n draw 6\n;rises ( all )\n> ( 7\n) ; \n", 0);
        CHECK.sound("\n", 0);
        CHECK.sound("kind a;person p has a1;", 1);
        CHECK.sound("kind a;kind b;person p has a1 b2;", 1);
        for (int c : new int[] {0, 9, 11, 12, 13, 31, 33, 127, 128, 160, 255}) CHECK.faulty("scum" + (char) c + "5;", 1, 4);
        for (int c : new int[] {9, 13}) CHECK.faulty("scum 5;" + (char) c, 1, 7);
    }

    private static void asLongAsCanBe() {
        CHECK.faulty("kinda;", 2, 0);
        CHECK.faulty("kindkind", 2, 0);
        CHECK.faulty("kindkinds", 1, 0);
        CHECK.faulty("rises notall;", 2, 6);
        CHECK.faulty("rises 1 orall;", 2, 8);
        CHECK.faulty("scum 1 0;", 2, 7);
        CHECK.faulty("kind a b;", 2, 7);
        CHECK.sound("kind kindx;kind kin;kind ki;", 0);
        CHECK.sound("rises 12 or 1;", 0);
    }

    private static void noLetterBehind() {
        CHECK.faulty("scum 5a", 1, 5);
        CHECK.faulty("scum 5z;", 1, 5);
        CHECK.faulty("scum 1234a;", 1, 5);
        CHECK.faulty("rises 1or 1;", 1, 6);
        CHECK.faulty("kind a;kind b;person p has a 1b 2;", 1, 29);
        CHECK.sound("rises 1 or 1;", 0);
        CHECK.sound("rises 1\nor 1;", 0);
        CHECK.sound("rises all or(1)and 1;", 0);
        CHECK.faulty("scum 5`;", 1, 6);
        CHECK.faulty("scum 5{;", 1, 6);
        CHECK.faulty("scum 5A;", 1, 6);
        // A letter before one is none behind one.
        CHECK.sound("scum5;", 0);
    }

    private static void noNames() {
        CHECK.due("so many words", OWN_WORDS.length, 19);
        for (String word : OWN_WORDS) {
            CHECK.faulty("kind " + word + ";", 2, 5);
            CHECK.faulty("kind a;person " + word + " has a 1;", 2, 14);
            CHECK.faulty("kind a;basin " + word + " wants a 1;", 2, 13);
            CHECK.faulty("kind a;person p has " + word + " 1;", 2, 20);
            CHECK.faulty("kind a;basin b wants " + word + " 1;", 2, 21);
            CHECK.faulty("kind a;boils " + word + " a into a 1;", 2, 13);
            CHECK.faulty("kind a;boils a " + word + " into a 1;", 2, 15);
            CHECK.faulty("kind a;boils a a into " + word + " 1;", 2, 22);
            String longer = word + "x";
            CHECK.sound("kind " + longer + ";person " + longer + " has " + longer + " 1;", 1);
        }
        for (String name : new String[] {"e", "line", "works", "both", "one", "sum", "term", "unit", "name", "n"}) {
            CHECK.sound("kind " + name + ";person " + name + " has " + name + " 1;basin " + name + " wants " + name + " 1;", 1);
        }
    }

    // ---- Terms, part 1: how many, and how much

    private void limits() {
        terms("At most 5 KINDS", TextEdgesTest::fiveKinds);
        terms("7 PEOPLE (of unlike KINDS told ahead so much each, 1 .. 20)", TextEdgesTest::sevenPeople);
        terms("6 RULES (all KINDS told ahead, also alike ones; 1 .. 9)", TextEdgesTest::sixRules);
        terms("4 BASINS (of unlike KINDS told ahead so much each, 1 .. 20)", TextEdgesTest::fourBasins);
        terms("numbered as told, each sort by itself", TextEdgesTest::numberedAsTold);
        terms("rises, scum (0 .. 100 of 100; 0), draw (0 .. 999; 0) once each", TextEdgesTest::onceEach);
    }

    private static void fiveKinds() {
        CHECK.sound(FIVE, 0);
        CHECK.due("about(1)", CHECK.of(FIVE).about(1), 5);
        CHECK.faulty(FIVE + "kind f;", 2, 35);
        CHECK.faulty(FIVE + "\nkind a;", 2, 36);
        CHECK.faulty(FIVE + "kind", 2, 35);
        CHECK.faulty(FIVE + "kind $", 2, 35);
        CHECK.faulty(FIVE + "kinds", 2, 35);
        CHECK.sound(FIVE + "person p has a 1 b 1 c 1 d 1 e 1;", 1);
    }

    private static String seven(String each) {
        StringBuilder text = new StringBuilder(ONE);
        for (char name = 'a'; name < 'h'; name++) text.append("person ").append(name).append(" has a ").append(each).append(';');
        return text.toString();
    }

    private static void sevenPeople() {
        String seven = seven("1");
        CHECK.sound(seven, 7);
        CHECK.faulty(seven + "person h has a 1;", 2, seven.length());
        CHECK.faulty(seven + "person a has a 1;", 2, seven.length());
        CHECK.faulty(seven + " person", 2, seven.length() + 1);
        CHECK.sound(seven + "kind h;basin h wants a 1;", 7);
        // So much each.
        CHECK.faulty("kind a;person p has a 0;", 4, 22);
        CHECK.faulty("kind a;person p has a 0000;", 4, 22);
        CHECK.sound("kind a;person p has a 1;", 1);
        CHECK.sound("kind a;person p has a 20;", 1);
        CHECK.faulty("kind a;person p has a 21;", 4, 22);
        CHECK.faulty("kind a;person p has a 9999;", 4, 22);
        CHECK.faulty("kind a;kind b;person p has a 1 b 0;", 4, 33);
        CHECK.faulty("kind a;kind b;person p has a 1 b 21;", 4, 33);
        CHECK.due("mind(0, 0)", CHECK.of("kind a;person p has a 20;").mind(0, 0), 20);
        // Of unlike KINDS, all five at most.
        CHECK.sound(FIVE + "person p has e 1 d 2 c 3 b 4 a 5;", 1);
        CHECK.faulty(FIVE + "person p has e 1 d 2 c 3 b 4 a 5 e 6;", 3, 68);
        CHECK.faulty(FIVE + "person p has e 1 d 2 c 3 b 4 a 5 f 6;", 5, 68);
        CHECK.faulty(FIVE + "person p has e 1 d 2 c 3 b 4 a 5 6;", 2, 68);
        CHECK.faulty("kind a;person p has a 1 a 1;", 3, 24);
        CHECK.sound("kind a;person p has a 1;person q has a 1;", 2);
        // Told ahead.
        CHECK.faulty("person p has a 1;kind a;", 5, 13);
        CHECK.faulty("kind a;person p has a 1 b 1;kind b;", 5, 24);
        CHECK.faulty("person p has p 1;", 5, 13);
        CHECK.sound("kind a;person p has a 1;kind b;person q has b 1;", 2);
        // One at least.
        CHECK.faulty("kind a;person p has;", 2, 19);
        CHECK.faulty("kind a;person p;", 2, 15);
    }

    private static void sixRules() {
        String six = ONE + "boils a a into a 1;".repeat(6);
        CHECK.sound(six, 0);
        CHECK.due("about(2)", CHECK.of(six).about(2), 6);
        CHECK.due("rule(5, 3)", CHECK.of(six).rule(5, 3), 1);
        CHECK.faulty(six + "boils a a into a 1;", 2, six.length());
        CHECK.faulty(six + "boils", 2, six.length());
        CHECK.faulty("kind a;boils a a into a 0;", 4, 24);
        CHECK.sound("kind a;boils a a into a 1;", 0);
        CHECK.sound("kind a;boils a a into a 9;", 0);
        CHECK.faulty("kind a;boils a a into a 10;", 4, 24);
        CHECK.faulty("boils a a into a 1;kind a;", 5, 6);
        CHECK.faulty("kind a;boils b a into a 1;kind b;", 5, 13);
        CHECK.faulty("kind a;boils a b into a 1;kind b;", 5, 15);
        CHECK.faulty("kind a;boils a a into b 1;kind b;", 5, 22);
        for (String rule : new String[] {"a a into a", "a a into b", "a b into a", "b a into a", "a b into c"}) {
            CHECK.sound(FIVE + "boils " + rule + " 1;", 0);
        }
    }

    private static void fourBasins() {
        StringBuilder four = new StringBuilder(ONE);
        for (char name = 'a'; name < 'e'; name++) four.append("basin ").append(name).append(" wants a 1;");
        CHECK.sound(four.toString(), 0);
        CHECK.due("about(3)", CHECK.of(four.toString()).about(3), 4);
        CHECK.due("wants(3, 0)", CHECK.of(four.toString()).wants(3, 0), 1);
        CHECK.faulty(four + "basin e wants a 1;", 2, four.length());
        CHECK.faulty(four + "basin a wants a 1;", 2, four.length());
        CHECK.faulty(four + "basin", 2, four.length());
        CHECK.faulty("kind a;basin b wants a 0;", 4, 23);
        CHECK.sound("kind a;basin b wants a 1;", 0);
        CHECK.sound("kind a;basin b wants a 20;", 0);
        CHECK.faulty("kind a;basin b wants a 21;", 4, 23);
        CHECK.sound(FIVE + "basin p wants e 1 d 2 c 3 b 4 a 5;", 0);
        CHECK.faulty(FIVE + "basin p wants e 1 d 2 c 3 b 4 a 5 e 6;", 3, 69);
        CHECK.faulty(FIVE + "basin p wants e 1 d 2 c 3 b 4 a 5 f 6;", 5, 69);
        CHECK.faulty("kind a;basin b wants a 1 a 1;", 3, 25);
        CHECK.faulty("basin b wants a 1;kind a;", 5, 14);
        CHECK.faulty("kind a;basin b wants;", 2, 20);
    }

    private static void numberedAsTold() {
        SoapWorks x = CHECK.of("kind z;kind a;basin y wants a 3;person z has a 5;boils a z into z 2;kind m;person a has z 4 m 6;"
                + "basin b wants m 7;boils m m into a 1;");
        CHECK.due("mind(0, 1)", x.mind(0, 1), 5);
        CHECK.due("mind(0, 0)", x.mind(0, 0), 0);
        CHECK.due("mind(1, 0)", x.mind(1, 0), 4);
        CHECK.due("mind(1, 2)", x.mind(1, 2), 6);
        CHECK.due("wants(0, 1)", x.wants(0, 1), 3);
        CHECK.due("wants(1, 2)", x.wants(1, 2), 7);
        int[][] rules = {{1, 0, 0, 2}, {2, 2, 1, 1}};
        for (int rule = 0; rule < 2; rule++) {
            for (int what = 0; what < 4; what++) CHECK.due("rule(" + rule + ", " + what + ")", x.rule(rule, what), rules[rule][what]);
        }
    }

    private static void onceEach() {
        CHECK.sound("rises 0;scum 0;draw 0;", 0);
        CHECK.faulty("rises 0;rises 0;", 2, 8);
        CHECK.faulty("rises 0;rises", 2, 8);
        CHECK.faulty("scum 0;scum 0;", 2, 7);
        CHECK.faulty("draw 0;draw 0;", 2, 7);
        CHECK.faulty("draw 0;scum 0;rises 0;draw 1000;", 2, 22);
        CHECK.sound("scum 100;", 0);
        CHECK.faulty("scum 101;", 4, 5);
        CHECK.sound("draw 999;", 0);
        CHECK.faulty("draw 1000;", 4, 5);
        CHECK.faulty("scum -1;", 2, 5);
        SoapWorks most = CHECK.of("scum 100;draw 999;");
        CHECK.due("about(16)", most.about(16), 100);
        CHECK.due("about(8)", most.about(8), 999);
        SoapWorks least = CHECK.of("scum 0;draw 0;");
        CHECK.due("about(16)", least.about(16), 0);
        CHECK.due("about(8)", least.about(8), 0);
        SoapWorks untold = CHECK.of("kind a;");
        CHECK.due("about(16) untold", untold.about(16), 0);
        CHECK.due("about(8) untold", untold.about(8), 0);
        CHECK.due("about(14) untold", untold.about(14), 0);
    }

    // ---- Terms, part 1: formulas

    private void formulas() {
        terms("e = both {or both}. both = one {and one}. one = not one | sum [(< | > | =) sum].", TextEdgesTest::onesAndBoths);
        terms("sum = term {(+ | -) term}. term = unit {(* | / | %) unit}.", TextEdgesTest::sumsAndTerms);
        terms("unit = N | all | kinds | most | least | tellers | day | ( e ).", TextEdgesTest::units);
        terms("60 units in all, 30 in one e", TextEdgesTest::thirtyUnits);
        terms("(a unit ( e ), or a one behind not, within 6 others at most)", TextEdgesTest::withinSixOthers);
    }

    private static void onesAndBoths() {
        CHECK.sound("rises 1 or 1 or 1 and 1 and 1 or not not 1;", 0);
        CHECK.faulty("rises or 1;", 2, 6);
        CHECK.faulty("rises 1 or;", 2, 10);
        CHECK.faulty("rises 1 and", 2, 11);
        CHECK.faulty("rises 1 or and 1;", 2, 11);
        CHECK.faulty("rises not;", 2, 9);
        CHECK.faulty("rises 1 not 1;", 2, 8);
        CHECK.faulty("rises 1+not 1;", 2, 8);
        CHECK.faulty("rises 1<not 1;", 2, 8);
        for (char relation : "<>=".toCharArray()) {
            CHECK.sound("rises 1" + relation + "2;", 0);
            CHECK.faulty("rises 1" + relation + "2" + relation + "3;", 2, 9);
            CHECK.faulty("rises 1" + relation + ";", 2, 8);
            CHECK.faulty("rises " + relation + "1;", 2, 6);
            CHECK.sound("rises (1" + relation + "2)" + relation + "3;", 0);
        }
        CHECK.faulty("rises 1<=2;", 2, 8);
    }

    private static void sumsAndTerms() {
        for (char sign : "+-*/%".toCharArray()) {
            CHECK.sound("rises 1" + sign + "2" + sign + "3;", 0);
            CHECK.faulty("rises 1" + sign + ";", 2, 8);
            CHECK.faulty("rises " + sign + "1;", 2, 6);
            CHECK.faulty("rises 1" + sign + sign + "1;", 2, 8);
        }
        CHECK.faulty("rises 1 1;", 2, 8);
    }

    private static void units() {
        for (String unit : new String[] {"0", "9999", "all", "kinds", "most", "least", "tellers", "day", "(1)", "(not 1)"}) {
            CHECK.sound("rises " + unit + ";", 0);
        }
        CHECK.faulty("rises;", 2, 5);
        CHECK.faulty("rises", 2, 5);
        CHECK.faulty("rises ();", 2, 7);
        CHECK.faulty("rises (;", 2, 7);
        CHECK.faulty("rises (1;", 2, 8);
        CHECK.faulty("rises (1", 2, 8);
        CHECK.faulty("rises 1);", 2, 7);
        CHECK.faulty("rises (1));", 2, 9);
        CHECK.faulty("kind a;rises a;", 2, 13);
        CHECK.faulty("rises kind;", 2, 6);
        CHECK.faulty("rises scum;", 2, 6);
        int[] due = {1, 2, 3, 3, 2, 1};
        String[] formulas = {"1", "(1)", "((1))", "all-(9)", "all*9", "not not day"};
        for (int i = 0; i < due.length; i++) {
            CHECK.due("about(14) of '" + formulas[i] + "'", CHECK.of("rises " + formulas[i] + ";").about(14), due[i]);
        }
    }

    private static void thirtyUnits() {
        for (String sign : new String[] {"+", "-", "*", "/", "%", " or ", " and "}) {
            String thirty = "rises 1" + (sign + "1").repeat(29);
            CHECK.sound(thirty + ";", 0);
            CHECK.due("about(14)", CHECK.of(thirty + ";").about(14), 30);
            CHECK.faulty(thirty + sign + "1;", 2, thirty.length() + sign.length());
            CHECK.faulty(thirty + sign + "(1);", 2, thirty.length() + sign.length());
            CHECK.faulty(thirty + sign + "day", 2, thirty.length() + sign.length());
        }
        String thirty = "rises 1" + "+1".repeat(29);
        CHECK.faulty(thirty + "<1;", 2, thirty.length() + 1);
        CHECK.faulty(thirty + "and not 1;", 1, thirty.length() - 1);
        CHECK.faulty(thirty + " and not 1;", 2, thirty.length() + 9);
        // A unit ( e ) is one, and so is what is within it.
        String pairs = "rises (1)" + "+(1)".repeat(14);
        CHECK.sound(pairs + ";", 0);
        CHECK.faulty(pairs + "+1;", 2, pairs.length() + 1);
        String odd = "rises 1" + "+1".repeat(28);
        CHECK.faulty(odd + "+(1);", 2, odd.length() + 2);
        CHECK.sound(odd + "+1;", 0);
        // not is none; and all of it counts, be it as long as it can be.
        CHECK.sound("rises not 1" + " and not 1".repeat(29) + ";", 0);
        String nots = "not ".repeat(7);
        CHECK.due("boil()", CHECK.of("rises " + (nots + "1 or ").repeat(29) + nots + "0;").boil(), 1);
        CHECK.due("boil()", CHECK.of("rises " + (nots + "1 or ").repeat(29) + nots + "1;").boil(), 0);
        CHECK.due("boil()", CHECK.of("rises " + (nots + "0 and ").repeat(29) + nots + "0;").boil(), 1);
        CHECK.due("boil()", CHECK.of("rises " + (nots + "0 and ").repeat(29) + nots + "1;").boil(), 0);
        // A second WORKS has its own thirty.
        SoapWorks x = CHECK.of(thirty + ";");
        CHECK.due("works()", Check.tell(x, thirty + ";"), 0);
    }

    private static void withinSixOthers() {
        CHECK.sound("rises " + "(".repeat(7) + "1" + ")".repeat(7) + ";", 0);
        CHECK.faulty("rises " + "(".repeat(8) + "1" + ")".repeat(8) + ";", 2, 13);
        CHECK.sound("rises " + "not ".repeat(7) + "1;", 0);
        CHECK.faulty("rises " + "not ".repeat(8) + "1;", 2, 34);
        CHECK.sound("rises " + "not(".repeat(3) + "not 1" + ")".repeat(3) + ";", 0);
        CHECK.faulty("rises " + "not(".repeat(4) + "1" + ")".repeat(4) + ";", 2, 21);
        CHECK.faulty("rises (" + "not(".repeat(3) + "not 1" + ")".repeat(4) + ";", 2, 19);
        CHECK.faulty("rises " + "(".repeat(7) + "not 1" + ")".repeat(7) + ";", 2, 13);
        CHECK.sound("rises " + "(".repeat(6) + "not 1" + ")".repeat(6) + ";", 0);
        CHECK.faulty("rises " + "not ".repeat(7) + "(1);", 2, 34);
        CHECK.sound("rises " + "not ".repeat(6) + "(1);", 0);
        // Beside one another they are not within one another.
        CHECK.sound("rises " + "(".repeat(7) + "1" + ")".repeat(7) + "+" + "(".repeat(7) + "1" + ")".repeat(7) + ";", 0);
        CHECK.faulty("rises (((((((1)))))))+((((((((1))))))));", 2, 29);
        CHECK.sound("rises " + "not ".repeat(7) + "1 and " + "not ".repeat(7) + "1;", 0);
        CHECK.sound("rises (((((((1)+2)+3)+4)+5)+6)+7)+(8);", 0);
        CHECK.faulty("rises " + "not ".repeat(7) + "1<(2);", 2, 36);
    }

    // ---- Terms, part 1: FAULTS

    private void faults() {
        terms("FAULTS, the first by its place (bytes from 0; the end: the text's length), at one place the least", TextEdgesTest::theFirst);
        terms("1 no TOKEN", TextEdgesTest::noToken);
        terms("2 one that can't stand there", TextEdgesTest::cantStandThere);
        terms("(one of a sort too many or a second time: at the line's first word;", TextEdgesTest::atTheFirstWord);
        terms("a unit too many, what is within 7 others: at its first TOKEN, or the not)", TextEdgesTest::atItsFirstToken);
        terms("3 a NAME told already (of its sort; a KIND of one of the PEOPLE, of a BASIN, too)", TextEdgesTest::toldAlready);
        terms("4 a number that can't be", TextEdgesTest::cantBe);
        terms("5 a NAME that no KIND has.", TextEdgesTest::noKindHas);
    }

    private static void theFirst() {
        CHECK.faulty("kind", 2, 4);
        CHECK.faulty("kind \n ", 2, 7);
        CHECK.faulty("  kind a  ", 2, 10);
        CHECK.faulty("kind a;kind a $", 3, 12);
        CHECK.faulty("kind $;kind a;kind a;", 1, 5);
        CHECK.faulty("scum 101;$", 4, 5);
        CHECK.faulty("kind a;person p has z 99;kind a;", 5, 20);
        CHECK.faulty("kind 1;kind $;", 2, 5);
        // At one place the least.
        CHECK.faulty("scum 101a;", 1, 5);
        CHECK.faulty("kind 1a;", 1, 5);
        CHECK.faulty(FIVE + "$", 1, 35);
        CHECK.faulty("kind a;person p has abcdefghi 1;", 1, 20);
        CHECK.faulty("kind a;boils a a into a 10000;", 1, 24);
        CHECK.faulty("rises " + "(".repeat(7) + "$", 1, 13);
        CHECK.faulty("rises 1" + "+1".repeat(29) + "+$", 1, 66);
        CHECK.faulty("rises 1" + "+1".repeat(29) + "+12345", 1, 66);
    }

    /** Wherever a TOKEN is looked for, there may be none. */
    private static void noToken() {
        String all = "kind a ; person p has a 1 ; boils a a into a 1 ; basin b wants a 1 ; rises not 1 < ( 2 + 3 * all ) or 4 ; scum 1 ; draw 1 ;";
        CHECK.sound(all, 1);
        for (int at = 0; at <= all.length(); at++) {
            if (at > 0 && at < all.length() && all.charAt(at - 1) != ' ') continue;
            CHECK.faulty(all.substring(0, at) + "$ " + all.substring(at), 1, at);
            CHECK.faulty(all.substring(0, at) + "abcdefghi " + all.substring(at), 1, at);
            CHECK.faulty(all.substring(0, at) + "12345 " + all.substring(at), 1, at);
            CHECK.faulty(all.substring(0, at) + "1a " + all.substring(at), 1, at);
        }
    }

    /** Behind each TOKEN of a text with lines of all sorts: what can stand there; anything else can't, nor can the end. */
    private static void cantStandThere() {
        String lines = " kind person boils basin ";
        String units = " 1 ( all kinds most least tellers day ";
        String signs = " + - * / % and or ";
        String[][] row = {{"", lines + "rises scum draw "}, {"kind", " a "}, {"a", " ; "}, {";", lines + "rises scum draw "},
            {"person", " a "}, {"p", " has "}, {"has", " a "}, {"a", " 1 "}, {"1", " a ; "}, {";", lines + "rises scum draw "},
            {"boils", " a "}, {"a", " a "}, {"a", " into "}, {"into", " a "}, {"a", " 1 "}, {"1", " ; "}, {";", lines + "rises scum draw "},
            {"basin", " a "}, {"b", " wants "}, {"wants", " a "}, {"a", " 1 "}, {"1", " a ; "}, {";", lines + "rises scum draw "},
            {"rises", " not " + units}, {"not", " not " + units}, {"1", signs + "< > = ; "}, {"<", units}, {"(", " not " + units},
            {"2", signs + "< > = ) "}, {"+", units}, {"3", signs + "< > = ) "}, {"*", units}, {"all", signs + "< > = ) "},
            {")", signs + "; "}, {"or", " not " + units}, {"4", signs + "< > = ; "}, {"and", " not " + units}, {"5", signs + "< > = ; "},
            {";", lines + "scum draw "}, {"scum", " 1 "}, {"1", " ; "}, {";", lines + "draw "}, {"draw", " 1 "}, {"1", " ; "}, {";", lines}};
        StringBuilder text = new StringBuilder();
        for (String[] step : row) {
            text.append(step[0]).append(' ');
            if (!step[1].startsWith(lines)) CHECK.faulty(text.toString(), 2, text.length());
            for (String token : OWN_WORDS) standsThere(text.toString(), token, step[1].contains(" " + token + " "));
            for (String token : "a 1 ; ( ) < > = + - * / %".split(" ")) standsThere(text.toString(), token, step[1].contains(" " + token + " "));
        }
        CHECK.sound(text.toString(), 1);
    }

    private static void standsThere(String text, String token, boolean can) {
        SoapWorks x = new SoapWorks();
        Check.tell(x, text + token);
        boolean refused = x.fault(0) == 2 && x.fault(1) == text.length();
        CHECK.due("'" + token + "' behind '" + text + "' is refused", refused, !can);
    }

    private static void atTheFirstWord() {
        CHECK.faulty(FIVE + "kind 1", 2, 35);
        CHECK.faulty(seven("1") + "person p has zz 0", 2, seven("1").length());
        CHECK.faulty(ONE + "boils a a into a 1;".repeat(6) + "boils z", 2, 7 + 6 * 19);
        CHECK.faulty(ONE + "basin a wants a 1;basin b wants a 1;basin c wants a 1;basin d wants a 1;basin a", 2, 7 + 4 * 18);
        CHECK.faulty("rises 1;rises $", 2, 8);
        CHECK.faulty("scum 1;scum 999", 2, 7);
        CHECK.faulty("draw 1;draw 9999", 2, 7);
        // A line that failed is not told: the first one that is told counts.
        SoapWorks x = new SoapWorks();
        CHECK.due("works()", Check.tell(x, "scum 101;"), -1);
        CHECK.due("works()", Check.tell(x, "draw 1;rises"), -1);
        CHECK.due("works()", Check.tell(x, "scum 1;draw 1;rises 1;"), 0);
    }

    private static void atItsFirstToken() {
        String thirty = "rises 1" + "+1".repeat(29);
        CHECK.faulty(thirty + "+ (1+1)", 2, thirty.length() + 2);
        CHECK.faulty(thirty + "+ 9999", 2, thirty.length() + 2);
        CHECK.faulty("rises ((((((( (1", 2, 14);
        CHECK.faulty("rises not not not not not not not  not 1", 2, 35);
        CHECK.faulty("rises not not not not not not not  (1)", 2, 35);
        CHECK.faulty("rises (((((((1+1*(1", 2, 17);
    }

    private static void toldAlready() {
        CHECK.faulty("kind a;kind b;kind a;", 3, 19);
        CHECK.faulty("kind a;person p has a 1;person q has a 1;person p", 3, 48);
        CHECK.faulty("kind a;basin p wants a 1;basin q wants a 1;basin p", 3, 49);
        CHECK.faulty("kind a;kind b;person p has b 1 a 2 b 3;", 3, 35);
        CHECK.faulty("kind a;kind b;basin p wants a 1 b 2 a 3;", 3, 36);
        // Of its sort alone; and RULES may be told again.
        CHECK.sound("kind a;person a has a 1;basin a wants a 1;", 1);
        CHECK.sound("kind a;boils a a into a 1;boils a a into a 1;", 0);
        // One of another WORKS was not told in this.
        SoapWorks x = CHECK.of("kind a;person p has a 1;");
        CHECK.due("works()", Check.tell(x, "kind a;person p has a 1;"), 1);
    }

    private static void cantBe() {
        CHECK.faulty("kind a;person p has a 21", 4, 22);
        CHECK.faulty("kind a;basin p wants a 0", 4, 23);
        CHECK.faulty("kind a;boils a a into a 10", 4, 24);
        CHECK.faulty("scum 9999", 4, 5);
        CHECK.faulty("draw 9999", 4, 5);
        CHECK.sound("rises 9999;", 0);
    }

    private static void noKindHas() {
        CHECK.faulty("kind a;person p has b", 5, 20);
        CHECK.faulty("kind a;person p has a 1;person q has p", 5, 37);
        CHECK.faulty("kind a;basin p wants p", 5, 21);
        CHECK.faulty("kind ab;boils a", 5, 14);
        CHECK.faulty("kind a;boils a aa", 5, 15);
        CHECK.faulty("kind a;boils a a into b", 5, 22);
        // One of the WORKS before is none of this.
        SoapWorks x = CHECK.of("kind a;");
        CHECK.due("works()", Check.tell(x, "person p has a 1;"), -1);
        CHECK.due("fault(0)", x.fault(0), 5);
    }
}
