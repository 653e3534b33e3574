import java.util.ArrayList;
import java.util.Collections;
import java.util.List;
import java.util.Random;

/** Texts of a WORKS by chance: sound ones, and ones with something wrong somewhere. */
final class Texts {
    private static final String[] NAMES = {"a", "b", "c", "envy", "foam", "e", "one", "line", "abcdefgh", "gold", "sum"};
    private static final String[] BITS = {";", "(", ")", "<", ">", "=", "+", "-", "*", "/", "%", "kind", "person", "has",
        "boils", "into", "basin", "wants", "rises", "scum", "draw", "or", "and", "not", "all", "kinds", "most", "least",
        "tellers", "day", "0", "1", "9", "10", "20", "21", "100", "101", "999", "1000", "9999", "12345", "1a", "zz", "a",
        "abcdefghi", "$", "A", "\t", "\n", " ", "!", "_", "\u0080", "\u00ff"};

    private final Random chance;

    Texts(Random chance) {
        this.chance = chance;
    }

    private int upTo(int most) {
        return chance.nextInt(most + 1);
    }

    private String pick(String[] all) {
        return all[chance.nextInt(all.length)];
    }

    private List<String> names(int count) {
        List<String> all = new ArrayList<>(List.of(NAMES));
        Collections.shuffle(all, chance);
        return all.subList(0, count);
    }

    String sound() {
        List<String> kinds = names(chance.nextInt(8) == 0 ? upTo(5) : 2 + upTo(3));
        List<String> lines = new ArrayList<>();
        if (!kinds.isEmpty()) {
            for (String name : names(chance.nextInt(4) == 0 ? upTo(7) : 2 + upTo(3))) lines.add("person " + name + " has " + portions(kinds));
            for (int i = upTo(6); i > 0; i--) {
                lines.add("boils " + one(kinds) + " " + one(kinds) + " into " + one(kinds) + " " + (1 + upTo(8)));
            }
            for (String name : names(upTo(4))) lines.add("basin " + name + " wants " + portions(kinds));
        }
        if (chance.nextInt(6) > 0) lines.add("rises " + (chance.nextInt(2) == 0 ? likely() : formula(3)));
        if (chance.nextInt(4) > 0) lines.add("scum " + upTo(100));
        if (chance.nextInt(4) > 0) lines.add("draw " + upTo(999));
        Collections.shuffle(lines, chance);
        StringBuilder text = new StringBuilder();
        for (String kind : kinds) text.append("kind ").append(kind).append(';');
        for (String line : lines) text.append(line).append(chance.nextInt(5) == 0 ? " ;\n " : ";");
        return text.length() > 1600 ? "" : text.toString();
    }

    private String one(List<String> kinds) {
        return kinds.get(chance.nextInt(kinds.size()));
    }

    private String portions(List<String> kinds) {
        List<String> some = new ArrayList<>(kinds);
        Collections.shuffle(some, chance);
        StringBuilder all = new StringBuilder();
        int most = 1 + upTo(Math.min(2, some.size() - 1));
        for (int i = 0; i < most; i++) all.append(some.get(i)).append(' ').append(1 + upTo(19)).append(' ');
        return all.toString();
    }

    /** Formulas that are near the point where it rises. */
    private String likely() {
        switch (upTo(5)) {
            case 0: return "all-" + upTo(60);
            case 1: return "most>" + upTo(30) + " and tellers>" + upTo(3);
            case 2: return "day%" + (1 + upTo(6)) + "=0 and all>" + upTo(30);
            case 3: return "least*3-" + upTo(12);
            case 4: return "kinds>" + upTo(3) + " or day>" + upTo(50);
            default: return "all-" + upTo(30) + "+tellers*" + upTo(5) + "-day";
        }
    }

    private String formula(int deep) {
        int sort = deep == 0 ? upTo(1) : upTo(8);
        switch (sort) {
            case 0: return String.valueOf(chance.nextInt(3) == 0 ? upTo(9999) : upTo(20));
            case 1: return pick(new String[] {"all", "kinds", "most", "least", "tellers", "day"});
            case 2: return "(" + formula(deep - 1) + ")";
            case 3: return "(not " + formula(deep - 1) + ")";
            case 4: return "(" + formula(deep - 1) + pick(new String[] {"<", ">", "="}) + formula(0) + ")";
            case 5: return "(" + formula(deep - 1) + pick(new String[] {" and ", " or "}) + formula(deep - 1) + ")";
            default: return formula(deep - 1) + pick(new String[] {"+", "-", "*", "/", "%"}) + formula(deep - 1);
        }
    }

    /** Mostly with something in it that can't be. */
    String wrong() {
        StringBuilder text = new StringBuilder(sound());
        for (int i = upTo(2); i >= 0; i--) {
            int at = upTo(text.length());
            int sort = upTo(3);
            if (sort == 0) {
                text.insert(at, pick(BITS));
            } else if (sort == 1 && at < text.length()) {
                text.deleteCharAt(at);
            } else if (sort == 2) {
                text.setLength(at);
            } else {
                String bit = pick(BITS);
                text.replace(at, Math.min(text.length(), at + 1 + upTo(bit.length())), bit);
            }
        }
        return text.length() > 1600 ? "" : text.toString();
    }

    /** Words and signs in a row, as they come. */
    String heap() {
        StringBuilder text = new StringBuilder(chance.nextInt(2) == 0 ? "kind a;kind b;rises " : "");
        for (int i = upTo(60); i > 0; i--) text.append(pick(BITS)).append(chance.nextInt(3) == 0 ? "" : " ");
        return text.length() > 1600 ? "" : text.toString();
    }

    /** Formulas of units and signs in turn, long and deep enough for the limits. */
    String deep() {
        StringBuilder text = new StringBuilder("rises ");
        int open = 0;
        for (int i = 5 + upTo(60); i > 0; i--) {
            while (chance.nextInt(3) == 0) text.append("not ");
            while (chance.nextInt(4) == 0) {
                text.append('(');
                open++;
            }
            text.append(pick(new String[] {"1", "all", "day", "77", "least"}));
            while (open > 0 && chance.nextInt(3) == 0) {
                text.append(')');
                open--;
            }
            text.append(pick(new String[] {" and ", " or ", " and ", " or ", "+", "*", "<"}));
        }
        text.append("1");
        for (; open > 0; open--) text.append(')');
        return text.append(';').length() > 1600 ? "" : text.toString();
    }
}
