/** The text of a WORKS: its TOKENS, its lines, its limits and its FAULTS (promises 4 and 5, by Terms, part 1). */
public final class TextTest {
    private static final Check CHECK = new Check("TextTest");
    private static final String[] KEYS = {"kind", "person", "has", "boils", "into", "basin", "wants", "rises", "scum",
        "draw", "or", "and", "not", "all", "kinds", "most", "least", "tellers", "day"};

    public static void main(String[] args) {
        tokens();
        names();
        lines();
        numbers();
        limits();
        formulas();
        units();
        depth();
        theLeastAtOnePlace();
        CHECK.close();
    }

    private static void tokens() {
        CHECK.sound("", 0);
        CHECK.sound(" \n ", 0);
        CHECK.sound("kind\na\n;\n\nkind b  ;person p has a1 b 2;", 1);
        CHECK.sound("scum5;draw6;rises(all)>(7);", 0);
        CHECK.faulty("kind a;kind b;person p has a1b2;", 1, 28);
        CHECK.faulty("scum 5a;", 1, 5);
        CHECK.faulty("scum 5A;", 1, 6);
        CHECK.sound("scum 0005;", 0);
        CHECK.faulty("scum 00005;", 1, 5);
        CHECK.faulty("scum 4294967296;", 1, 5);
        CHECK.faulty("rises 1+12345;", 1, 8);
        CHECK.sound("kind abcdefgh;", 0);
        CHECK.faulty("kind abcdefghi;", 1, 5);
        CHECK.faulty("kinddraw;", 2, 0);
        CHECK.faulty("kindperson;", 1, 0);
        CHECK.faulty("kind a\t;", 1, 6);
        CHECK.faulty("kind a\r\n;", 1, 6);
        CHECK.faulty("Kind a;", 1, 0);
        CHECK.faulty("kind a;\0", 1, 7);
        CHECK.faulty("kind \u00e9;", 1, 5);
        CHECK.faulty("kind \u0080;", 1, 5);
        CHECK.faulty("kind a,", 1, 6);
        CHECK.faulty("kind a:", 1, 6);
        for (char c = 0; c < 256; c++) {
            boolean isToken = c >= 'a' && c <= 'z' || c >= '0' && c <= '9' || ";()<>=+-*/%".indexOf(c) >= 0;
            if (c != ' ' && c != '\n') CHECK.faulty("  " + c, isToken ? 2 : 1, 2);
        }
    }

    private static void names() {
        for (String key : KEYS) {
            CHECK.faulty("kind " + key + ";", 2, 5);
            CHECK.faulty("kind a;person " + key + " has a 1;", 2, 14);
            CHECK.faulty("kind a;basin " + key + " wants a 1;", 2, 13);
            CHECK.faulty("kind a;person p has " + key + " 1;", 2, 20);
            CHECK.faulty("kind a;boils " + key + " a into a 1;", 2, 13);
        }
        for (String word : new String[] {"e", "line", "works", "both", "one", "sum", "term", "unit", "name", "n", "kindx", "d"}) {
            CHECK.sound("kind " + word + ";person " + word + " has " + word + " 1;basin " + word + " wants " + word + " 1;", 1);
        }
        CHECK.faulty("kind 1;", 2, 5);
        CHECK.faulty("kind ;", 2, 5);
        CHECK.faulty("kind", 2, 4);
        CHECK.faulty("kind  \n", 2, 7);
        CHECK.faulty("kind a;kind b;kind a;", 3, 19);
        CHECK.faulty("kind a;person p has a 1;person q has a 1;person p has a 1;", 3, 48);
        CHECK.faulty("kind a;basin p wants a 1;basin p wants a 1;", 3, 31);
        CHECK.faulty("kind a;kind b;person p has b 1 a 2 b 3;", 3, 35);
        CHECK.faulty("kind a;kind b;basin p wants a 1 b 2 a 3;", 3, 36);
        // KINDS must be told ahead.
        CHECK.faulty("person p has a 1;kind a;", 5, 13);
        CHECK.faulty("kind a;person p has a 1 b 2;kind b;", 5, 24);
        CHECK.faulty("basin p wants a 1;kind a;", 5, 14);
        CHECK.faulty("kind a;boils b a into a 1;", 5, 13);
        CHECK.faulty("kind a;boils a b into a 1;", 5, 15);
        CHECK.faulty("kind a;boils a a into b 1;", 5, 22);
        // A NAME of another sort is no KIND's; nor is the beginning of one.
        CHECK.faulty("kind a;person p has a 1;person q has p 1;", 5, 37);
        CHECK.faulty("kind ab;person p has a 1;", 5, 21);
        CHECK.faulty("kind a;person p has aa 1;", 5, 20);
    }

    private static void lines() {
        CHECK.faulty(";", 2, 0);
        CHECK.faulty("a;", 2, 0);
        CHECK.faulty("7;", 2, 0);
        for (String key : KEYS) {
            boolean begins = " kind person boils basin rises scum draw ".contains(" " + key + " ");
            CHECK.faulty(key, 2, begins ? key.length() : 0);
        }
        CHECK.faulty("kind a b;", 2, 7);
        CHECK.faulty("kind a", 2, 6);
        CHECK.faulty("kind a;;", 2, 7);
        CHECK.faulty("kind a kind b;", 2, 7);
        CHECK.faulty("kind a;person p a 1;", 2, 16);
        CHECK.faulty("kind a;person p wants a 1;", 2, 16);
        CHECK.faulty("kind a;person p has;", 2, 19);
        CHECK.faulty("kind a;person p has 1;", 2, 20);
        CHECK.faulty("kind a;person p has a;", 2, 21);
        CHECK.faulty("kind a;person p has a 1", 2, 23);
        CHECK.faulty("kind a;person p has a 1 2;", 2, 24);
        CHECK.faulty("kind a;person p has a 1 kind b;", 2, 24);
        CHECK.faulty("kind a;person p has a(1);", 2, 21);
        CHECK.faulty("kind a;basin p has a 1;", 2, 15);
        CHECK.faulty("kind a;basin p wants;", 2, 20);
        CHECK.faulty("kind a;basin p wants a a;", 2, 23);
        CHECK.faulty("kind a;boils;", 2, 12);
        CHECK.faulty("kind a;boils a into a 1;", 2, 15);
        CHECK.faulty("kind a;boils a a a 1;", 2, 17);
        CHECK.faulty("kind a;boils a a into 1;", 2, 22);
        CHECK.faulty("kind a;boils a a into a;", 2, 23);
        CHECK.faulty("kind a;boils a a into a 1 a;", 2, 26);
        CHECK.faulty("kind a;boils a a into a 1", 2, 25);
        CHECK.faulty("scum;", 2, 4);
        CHECK.faulty("scum a;", 2, 5);
        CHECK.faulty("scum 1 2;", 2, 7);
        CHECK.faulty("draw -1;", 2, 5);
        CHECK.faulty("draw 1", 2, 6);
        CHECK.sound("draw 1;scum 2;rises 3;kind a;basin b wants a 1;boils a a into a 1;person p has a 1;kind c;", 1);
    }

    private static void numbers() {
        CHECK.faulty("kind a;person p has a 0;", 4, 22);
        CHECK.sound("kind a;person p has a 1;", 1);
        CHECK.sound("kind a;person p has a 20;", 1);
        CHECK.faulty("kind a;person p has a 21;", 4, 22);
        CHECK.faulty("kind a;kind b;person p has a 20 b 9999;", 4, 34);
        CHECK.faulty("kind a;basin p wants a 0;", 4, 23);
        CHECK.sound("kind a;basin p wants a 1;", 0);
        CHECK.sound("kind a;basin p wants a 0020;", 0);
        CHECK.faulty("kind a;basin p wants a 21;", 4, 23);
        CHECK.faulty("kind a;boils a a into a 0;", 4, 24);
        CHECK.sound("kind a;boils a a into a 1;", 0);
        CHECK.sound("kind a;boils a a into a 9;", 0);
        CHECK.faulty("kind a;boils a a into a 10;", 4, 24);
        CHECK.sound("scum 0;", 0);
        CHECK.sound("scum 100;", 0);
        CHECK.faulty("scum 101;", 4, 5);
        CHECK.sound("draw 0;", 0);
        CHECK.sound("draw 999;", 0);
        CHECK.faulty("draw 1000;", 4, 5);
        CHECK.sound("rises 0;", 0);
        CHECK.sound("rises 9999;", 0);
    }

    private static void limits() {
        String kinds = "kind a;kind b;kind c;kind d;kind e;";
        CHECK.sound(kinds, 0);
        CHECK.faulty(kinds + "kind f;", 2, 35);
        CHECK.faulty(kinds + "kind a;", 2, 35);
        CHECK.faulty(kinds + "  kind", 2, 37);
        CHECK.sound(kinds + "person p has e 1 d 2 c 3 b 4 a 5;basin p wants a 1 b 2 c 3 d 4 e 5;", 1);
        CHECK.faulty(kinds + "person p has e 1 d 2 c 3 b 4 a 5 a 6;", 3, 68);
        CHECK.faulty(kinds + "person p has e 1 d 2 c 3 b 4 a 5 f 6;", 5, 68);
        CHECK.faulty(kinds + "person p has e 1 d 2 c 3 b 4 a 5 6;", 2, 68);
        StringBuilder text = new StringBuilder("kind a;");
        for (char name = 'a'; name < 'h'; name++) text.append("person ").append(name).append(" has a 1;");
        CHECK.sound(text.toString(), 7);
        CHECK.faulty(text + "person a has a 1;", 2, text.length());
        CHECK.faulty(text + "person h has a 1;", 2, text.length());
        CHECK.sound(text + "kind h;", 7);
        text = new StringBuilder("kind a;");
        for (int i = 0; i < 6; i++) text.append("boils a a into a 1;");
        CHECK.sound(text.toString(), 0);
        CHECK.faulty(text + "boils a a into a 1;", 2, text.length());
        text = new StringBuilder("kind a;");
        for (char name = 'a'; name < 'e'; name++) text.append("basin ").append(name).append(" wants a 1;");
        CHECK.sound(text.toString(), 0);
        CHECK.faulty(text + "basin e wants a 1;", 2, text.length());
        CHECK.faulty("rises 0;rises 1;", 2, 8);
        CHECK.faulty("scum 0;scum 0;", 2, 7);
        CHECK.faulty("draw 0;draw 0;", 2, 7);
        CHECK.faulty("draw 0;scum 0;rises 0;draw 1001;", 2, 22);
    }

    private static void formulas() {
        CHECK.faulty("rises;", 2, 5);
        CHECK.faulty("rises", 2, 5);
        CHECK.faulty("rises 1", 2, 7);
        CHECK.faulty("rises 1 1;", 2, 8);
        CHECK.faulty("rises a;", 2, 6);
        CHECK.faulty("kind a;rises a;", 2, 13);
        CHECK.faulty("rises -1;", 2, 6);
        CHECK.faulty("rises 1+;", 2, 8);
        CHECK.faulty("rises 1+*2;", 2, 8);
        CHECK.faulty("rises (1;", 2, 8);
        CHECK.faulty("rises (1", 2, 8);
        CHECK.faulty("rises 1);", 2, 7);
        CHECK.faulty("rises ();", 2, 7);
        CHECK.faulty("rises not;", 2, 9);
        CHECK.faulty("rises 1 not 2;", 2, 8);
        CHECK.faulty("rises 1+not 2;", 2, 8);
        CHECK.faulty("rises 1*not 2;", 2, 8);
        CHECK.faulty("rises 1<not 2;", 2, 8);
        CHECK.faulty("rises and 1;", 2, 6);
        CHECK.faulty("rises 1 or;", 2, 10);
        CHECK.faulty("rises 1 or or 1;", 2, 11);
        CHECK.faulty("rises 1<2>3;", 2, 9);
        CHECK.faulty("rises 1=2=3;", 2, 9);
        CHECK.faulty("rises 1<2+3<4;", 2, 11);
        CHECK.faulty("rises 1<=2;", 2, 8);
        CHECK.faulty("rises not not 1<2<3;", 2, 17);
        CHECK.sound("rises (1<2)<3;", 0);
        CHECK.sound("rises 1<2 and not 3>4 or not not 5=6;", 0);
        CHECK.sound("rises 1+(not 2);", 0);
        CHECK.sound("rises all+kinds-most*least/tellers%day;", 0);
    }

    private static void units() {
        String thirty = "rises 1" + "+1".repeat(29);
        CHECK.sound(thirty + ";", 0);
        CHECK.faulty(thirty + "+1;", 2, 66);
        CHECK.faulty(thirty + "+(1);", 2, 66);
        CHECK.faulty(thirty + "+all;", 2, 66);
        CHECK.faulty(thirty + "+$;", 1, 66);
        // A unit ( e ) is one, and what is in it is more.
        String pairs = "rises (1)" + "+(1)".repeat(14);
        CHECK.sound(pairs + ";", 0);
        CHECK.faulty(pairs + "+1;", 2, pairs.length() + 1);
        CHECK.faulty(pairs + "or not 1;", 2, pairs.length() + 7);
        String odd = "rises 1" + "+1".repeat(28);
        CHECK.faulty(odd + "+(1);", 2, odd.length() + 2);
        CHECK.sound("rises " + "not ".repeat(7) + "1" + (" and " + "not ".repeat(7) + "1").repeat(29) + ";", 0);
        due("", 0);
        due("rises all-9;", 2);
        due("rises (all);", 2);
        due("rises ((1)+2)*3;", 5);
        due("rises not not 1;", 1);
        due(pairs + ";", 30);
    }

    private static void due(String text, int units) {
        CHECK.due("about(14) of '" + text + "'", CHECK.of(text).about(14), units);
    }

    private static void depth() {
        CHECK.sound("rises (((((((1)))))));", 0);
        CHECK.faulty("rises ((((((((1))))))));", 2, 13);
        CHECK.sound("rises not not not not not not not 1;", 0);
        CHECK.faulty("rises not not not not not not not not 1;", 2, 34);
        CHECK.sound("rises not(not(not(not 1)));", 0);
        CHECK.faulty("rises not(not(not(not(1))));", 2, 21);
        CHECK.faulty("rises (not(not(not(not 1))));", 2, 19);
        CHECK.sound("rises (((((((1)))))))+(((((((1)))))));", 0);
        CHECK.faulty("rises (((((((1)))))))+((((((((1))))))));", 2, 29);
        CHECK.sound("rises ((((((not 1))))))and((((((not 1))))));", 0);
        CHECK.faulty("rises (((((((not 1)))))));", 2, 13);
        CHECK.sound("rises (((((((1)+2)+3)+4)+5)+6)+7);", 0);
        CHECK.faulty("rises not not not not not not not 1<(2);", 2, 36);
        CHECK.sound("rises not not not not not not 1<(2);", 0);
    }

    private static void theLeastAtOnePlace() {
        CHECK.faulty("kind a;kind a$", 3, 12);
        CHECK.faulty("kind $;kind $;", 1, 5);
        CHECK.faulty("kind 1a;", 1, 5);
        CHECK.faulty("kind 1;$", 2, 5);
        CHECK.faulty("scum 101$", 4, 5);
        CHECK.faulty("scum 101a", 1, 5);
        CHECK.faulty("kind a;kind b;kind c;kind d;kind e;$", 1, 35);
        CHECK.faulty("person p has abcdefghi 0;", 1, 13);
    }
}
