import java.math.BigInteger;
import java.util.ArrayList;
import java.util.Arrays;
import java.util.Collections;
import java.util.HashMap;
import java.util.HashSet;
import java.util.List;
import java.util.Map;
import java.util.Set;
import java.util.TreeSet;

/** The document once more, by other means and without a care for speed or room: what ModelTest holds the class against. */
final class Model {
    private static final Set<String> KEYS = new HashSet<>(Arrays.asList("kind", "person", "has", "boils", "into", "basin",
            "wants", "rises", "scum", "draw", "or", "and", "not", "all", "kinds", "most", "least", "tellers", "day"));
    private static final Set<String> QUANTITIES = new HashSet<>(Arrays.asList("all", "kinds", "most", "least", "tellers", "day"));

    /** A fault, thrown where it is met. */
    private static final class Fault extends RuntimeException {
        private static final long serialVersionUID = 1;
        final int number;
        final int place;

        Fault(int number, int place) {
            this.number = number;
            this.place = place;
        }
    }

    private record Token(char sort, String text, int place) {
    }

    private static final class Told {
        final List<String> kinds = new ArrayList<>();
        final List<String> people = new ArrayList<>();
        final List<String> basins = new ArrayList<>();
        final List<Map<Integer, Integer>> minds = new ArrayList<>();
        final List<Map<Integer, Integer>> wants = new ArrayList<>();
        final List<int[]> rules = new ArrayList<>();
        List<Object> rises;
        int units;
        Integer scum;
        Integer draw;
        int lastKind;
    }

    private record State(List<Integer> vat, Set<Integer> told, Set<Integer> eased, int street, int day, int seed) {
    }

    private record Seen(int boilings, int kind, int much, boolean is, int told, int[] untold) {
    }

    private final List<Byte> tape = new ArrayList<>();
    private Told works = new Told();
    private State now = new State(List.of(), Set.of(), Set.of(), 0, 0, 0);
    private List<State> past = new ArrayList<>();
    private List<State> future = new ArrayList<>();
    private List<Integer> lying = new ArrayList<>();
    private List<Seen> sightings = new ArrayList<>();
    private Map<Integer, State> boxes = new HashMap<>();
    private int time;
    private int faultNumber;
    private int faultPlace = -1;

    // ---- the text

    int feed(int... numbers) {
        if (tape.size() + 20 > 1600) return -1;
        for (int number : numbers) {
            for (byte b : java.nio.ByteBuffer.allocate(4).putInt(number).array()) tape.add(b);
        }
        return tape.size();
    }

    int end(int n) {
        if (n < 0 || n > tape.size()) return -1;
        tape.subList(n, tape.size()).clear();
        return n;
    }

    int works() {
        StringBuilder text = new StringBuilder();
        for (byte b : tape) text.append((char) (b & 255));
        tape.clear();
        faultNumber = 0;
        faultPlace = -1;
        try {
            works = new Parser(text.toString()).parse();
        } catch (Fault f) {
            faultNumber = f.number;
            faultPlace = f.place;
            return -1;
        }
        now = new State(Collections.nCopies(works.kinds.size(), 0), Set.of(), Set.of(), 0, 0, draw());
        past = new ArrayList<>();
        future = new ArrayList<>();
        lying = new ArrayList<>();
        sightings = new ArrayList<>();
        boxes = new HashMap<>();
        return works.people.size();
    }

    private int draw() {
        return works.draw == null ? 0 : works.draw;
    }

    private int scum() {
        return works.scum == null ? 0 : works.scum;
    }

    int fault(int what) {
        return what == 0 ? faultNumber : what == 1 ? faultPlace : -1;
    }

    private static final class Parser {
        private final List<Token> tokens = new ArrayList<>();
        private final Told told = new Told();
        private int at;

        Parser(String text) {
            int i = 0;
            while (i < text.length()) {
                char c = text.charAt(i);
                if (c == ' ' || c == '\n') {
                    i++;
                    continue;
                }
                String rest = text.substring(i);
                String word = rest.replaceAll("(?s)[^a-z].*", "");
                String digits = rest.replaceAll("(?s)[^0-9].*", "");
                if (!word.isEmpty()) {
                    tokens.add(new Token(word.length() > 8 ? '?' : KEYS.contains(word) ? 'k' : 'w', word, i));
                    i += word.length();
                } else if (!digits.isEmpty()) {
                    boolean bad = digits.length() > 4 || rest.matches("(?s)[0-9]+[a-z].*");
                    tokens.add(new Token(bad ? '?' : 'n', digits, i));
                    i += digits.length();
                } else {
                    tokens.add(new Token(";()<>=+-*/%".indexOf(c) >= 0 ? 's' : '?', "" + c, i));
                    i++;
                }
            }
            tokens.add(new Token('e', "", text.length()));
        }

        private Token here() {
            return tokens.get(at);
        }

        private Fault fault(int number) {
            return new Fault(here().sort == '?' ? 1 : number, here().place);
        }

        private boolean isHere(String text) {
            return (here().sort == 'k' || here().sort == 's') && here().text.equals(text);
        }

        private void take(String text) {
            if (!isHere(text)) throw fault(2);
            at++;
        }

        private String name() {
            if (here().sort != 'w') throw fault(2);
            return here().text;
        }

        private int number(int least, int most) {
            if (here().sort != 'n') throw fault(2);
            int n = Integer.parseInt(here().text);
            if (n < least || n > most) throw fault(4);
            at++;
            return n;
        }

        private int kind() {
            int kind = told.kinds.indexOf(name());
            if (kind < 0) throw fault(5);
            return kind;
        }

        private void newName(List<String> names) {
            if (names.contains(name())) throw fault(3);
            names.add(name());
            at++;
        }

        private void room(boolean is) {
            if (!is) throw fault(2);
            at++;
        }

        Told parse() {
            while (here().sort != 'e') {
                if (here().sort != 'k') throw fault(2);
                switch (here().text) {
                    case "kind" -> {
                        room(told.kinds.size() < 5);
                        newName(told.kinds);
                    }
                    case "person" -> {
                        room(told.people.size() < 7);
                        newName(told.people);
                        take("has");
                        told.lastKind = portions(told.minds);
                    }
                    case "basin" -> {
                        room(told.basins.size() < 4);
                        newName(told.basins);
                        take("wants");
                        portions(told.wants);
                    }
                    case "boils" -> rule();
                    case "rises" -> {
                        room(told.rises == null);
                        told.rises = e(0);
                    }
                    case "scum" -> {
                        room(told.scum == null);
                        told.scum = number(0, 100);
                    }
                    case "draw" -> {
                        room(told.draw == null);
                        told.draw = number(0, 999);
                    }
                    default -> throw fault(2);
                }
                take(";");
            }
            return told;
        }

        private void rule() {
            room(told.rules.size() < 6);
            int first = kind();
            at++;
            int second = kind();
            at++;
            take("into");
            int third = kind();
            at++;
            told.rules.add(new int[] {first, second, third, number(1, 9)});
        }

        private int portions(List<Map<Integer, Integer>> rows) {
            Map<Integer, Integer> row = new HashMap<>();
            rows.add(row);
            int kind;
            do {
                kind = kind();
                if (row.containsKey(kind)) throw fault(3);
                at++;
                row.put(kind, number(1, 20));
            } while (!isHere(";"));
            return kind;
        }

        private List<Object> e(int within) {
            List<Object> left = both(within);
            while (isHere("or")) {
                at++;
                left = List.of("or", left, both(within));
            }
            return left;
        }

        private List<Object> both(int within) {
            List<Object> left = one(within);
            while (isHere("and")) {
                at++;
                left = List.of("and", left, one(within));
            }
            return left;
        }

        private List<Object> one(int within) {
            if (isHere("not")) {
                if (within > 6) throw fault(2);
                at++;
                return List.of("not", one(within + 1));
            }
            List<Object> left = sum(within);
            for (String relation : List.of("<", ">", "=")) {
                if (!isHere(relation)) continue;
                at++;
                return List.of(relation, left, sum(within));
            }
            return left;
        }

        private List<Object> sum(int within) {
            List<Object> left = term(within);
            while (isHere("+") || isHere("-")) {
                String sign = here().text;
                at++;
                left = List.of(sign, left, term(within));
            }
            return left;
        }

        private List<Object> term(int within) {
            List<Object> left = unit(within);
            while (isHere("*") || isHere("/") || isHere("%")) {
                String sign = here().text;
                at++;
                left = List.of(sign, left, unit(within));
            }
            return left;
        }

        private List<Object> unit(int within) {
            if (told.units == 30) throw fault(2);
            told.units++;
            if (isHere("(")) {
                if (within > 6) throw fault(2);
                at++;
                List<Object> inner = e(within + 1);
                take(")");
                return inner;
            }
            if (here().sort == 'n') return List.of("n", number(0, 9999));
            if (here().sort == 'k' && QUANTITIES.contains(here().text)) {
                at++;
                return List.of(tokens.get(at - 1).text);
            }
            throw fault(2);
        }
    }

    // ---- what is

    int vat(int kind) {
        return isKind(kind) ? now.vat.get(kind) : -1;
    }

    private boolean isKind(int kind) {
        return kind >= 0 && kind < works.kinds.size();
    }

    private boolean isPerson(int person) {
        return person >= 0 && person < works.people.size();
    }

    private boolean isBasin(int basin) {
        return basin >= 0 && basin < works.basins.size();
    }

    int mind(int person, int kind) {
        return isPerson(person) && isKind(kind) ? works.minds.get(person).getOrDefault(kind, 0) : -1;
    }

    int wants(int basin, int kind) {
        return isBasin(basin) && isKind(kind) ? works.wants.get(basin).getOrDefault(kind, 0) : -1;
    }

    int rule(int rule, int what) {
        return rule >= 0 && rule < works.rules.size() && what >= 0 && what < 4 ? works.rules.get(rule)[what] : -1;
    }

    // ---- acts

    private static int sum(List<Integer> numbers) {
        return numbers.stream().mapToInt(Integer::intValue).sum();
    }

    private void become(State next) {
        past.add(now);
        if (past.size() > 40) past.remove(0);
        future.clear();
        now = next;
    }

    private State telling(State s, Set<Integer> who) {
        List<Integer> vat = new ArrayList<>(s.vat);
        Set<Integer> told = new TreeSet<>(s.told);
        for (int p : who) {
            told.add(p);
            works.minds.get(p).forEach((kind, much) -> vat.set(kind, vat.get(kind) + much));
        }
        return new State(vat, told, s.eased, s.street, s.day, s.seed);
    }

    private List<Integer> boiled(List<Integer> before, List<Integer> order, int limit) {
        List<Integer> vat = new ArrayList<>(before);
        for (int r : order) {
            int[] rule = works.rules.get(r);
            int most = limit < 0 ? rule[3] : limit;
            int k = 0;
            List<Integer> left = new ArrayList<>(vat);
            while (k < most) {
                left.set(rule[0], left.get(rule[0]) - 1);
                left.set(rule[1], left.get(rule[1]) - 1);
                if (Collections.min(left) < 0) break;
                k++;
                vat = new ArrayList<>(left);
            }
            vat.set(rule[2], vat.get(rule[2]) + k);
        }
        return vat;
    }

    private List<Integer> boiled(List<Integer> before) {
        return boiled(before, asTold(), -1);
    }

    private List<Integer> asTold() {
        List<Integer> order = new ArrayList<>();
        for (int r = 0; r < works.rules.size(); r++) order.add(r);
        return order;
    }

    private boolean risen(State s) {
        if (works.rises == null) return sum(s.vat) > 50;
        return value(works.rises, s) > 0;
    }

    private static int value(List<Object> e, State s) {
        String op = (String) e.get(0);
        switch (op) {
            case "n": return (Integer) e.get(1);
            case "all": return sum(s.vat);
            case "kinds": return (int) s.vat.stream().filter(m -> m > 0).count();
            case "most": return s.vat.isEmpty() ? 0 : Collections.max(s.vat);
            case "least": return s.vat.isEmpty() ? 0 : Collections.min(s.vat);
            case "tellers": return s.told.size();
            case "day": return s.day;
            case "not": return value(part(e, 1), s) == 0 ? 1 : 0;
            default: break;
        }
        int a = value(part(e, 1), s);
        int b = value(part(e, 2), s);
        BigInteger left = BigInteger.valueOf(a);
        BigInteger right = BigInteger.valueOf(b);
        return switch (op) {
            case "+" -> left.add(right).intValue();
            case "-" -> left.subtract(right).intValue();
            case "*" -> left.multiply(right).intValue();
            case "/" -> b == 0 ? 0 : left.divide(right).intValue();
            case "%" -> b == 0 ? 0 : left.remainder(right).intValue();
            case "<" -> left.compareTo(right) < 0 ? 1 : 0;
            case ">" -> left.compareTo(right) > 0 ? 1 : 0;
            case "=" -> left.equals(right) ? 1 : 0;
            case "and" -> a != 0 && b != 0 ? 1 : 0;
            case "or" -> a != 0 || b != 0 ? 1 : 0;
            default -> throw new IllegalStateException(op);
        };
    }

    @SuppressWarnings("unchecked")
    private static List<Object> part(List<Object> e, int i) {
        return (List<Object>) e.get(i);
    }

    private State lived(State s, boolean scum, boolean street) {
        List<Integer> vat = boiled(s.vat);
        int seed = s.seed;
        if (scum) {
            seed = (seed * 137 + 71) % 1000;
            if (seed % 100 < scum()) vat.replaceAll(m -> m > 0 ? m - 1 : 0);
        }
        State next = new State(vat, s.told, s.eased, s.street, s.day + 1, seed);
        if (!street || !risen(next)) return next;
        return new State(Collections.nCopies(vat.size(), 0), s.told, s.eased, s.street + 1, s.day + 1, seed);
    }

    private boolean silent(int person) {
        return isPerson(person) && !now.told.contains(person);
    }

    int confess(int person) {
        if (!silent(person)) return -1;
        become(telling(now, Set.of(person)));
        return sum(now.vat);
    }

    int boil() {
        if (now.day >= 999) return -1;
        int before = now.street;
        become(lived(now, true, true));
        return now.street - before;
    }

    private boolean holds(List<Integer> vat, int basin) {
        for (Map.Entry<Integer, Integer> want : works.wants.get(basin).entrySet()) {
            if (vat.get(want.getKey()) < want.getValue()) return false;
        }
        return true;
    }

    private List<Integer> washed(List<Integer> vat, int basin) {
        List<Integer> left = new ArrayList<>(vat);
        works.wants.get(basin).forEach((kind, much) -> left.set(kind, left.get(kind) - much));
        return left;
    }

    int wash(int basin) {
        if (!isBasin(basin) || now.eased.contains(basin) || !holds(now.vat, basin)) return -1;
        Set<Integer> eased = new TreeSet<>(now.eased);
        eased.add(basin);
        become(new State(washed(now.vat, basin), now.told, eased, now.street, now.day, now.seed));
        return sum(now.vat);
    }

    int sweep(int kind) {
        if (!isKind(kind) || now.vat.get(kind) == 0) return -1;
        int was = now.vat.get(kind);
        List<Integer> vat = new ArrayList<>(now.vat);
        vat.set(kind, 0);
        become(new State(vat, now.told, now.eased, now.street, now.day, now.seed));
        return was;
    }

    boolean undo() {
        if (past.isEmpty()) return false;
        future.add(now);
        now = past.remove(past.size() - 1);
        return true;
    }

    boolean redo() {
        if (future.isEmpty()) return false;
        past.add(now);
        now = future.remove(future.size() - 1);
        return true;
    }

    // ---- what lies ahead

    int will(int kind, int n, int what) {
        if (!isKind(kind) || n < 0 || n > 60 || what < 0 || what > 1) return -1;
        State s = now;
        for (int i = 0; i < n; i++) s = lived(s, what == 1, true);
        return s.vat.get(kind);
    }

    private int rise(State from, int most) {
        State s = from;
        for (int n = 1; n <= most; n++) {
            s = lived(s, false, false);
            if (risen(s)) return n;
        }
        return -1;
    }

    int rise() {
        return rise(now, 60);
    }

    int rouser(int what) {
        int[] best = {-1, -1};
        for (int p = 0; p < works.people.size(); p++) {
            if (!silent(p)) continue;
            int rise = rise(telling(now, Set.of(p)), 60);
            if (rise > 0 && (best[1] < 0 || rise < best[1])) best = new int[] {p, rise};
        }
        return what < 0 || what > 1 ? -1 : best[what];
    }

    private static Set<Integer> set(int bits) {
        Set<Integer> set = new TreeSet<>();
        for (int i = 0; i < 31; i++) if ((bits & 1 << i) != 0) set.add(i);
        return set;
    }

    private static int bits(Set<Integer> set) {
        int bits = 0;
        for (int i : set) bits |= 1 << i;
        return bits;
    }

    private interface Test {
        boolean of(Set<Integer> set);
    }

    /** The fewest of those who have not TOLD for whom the test holds; of like ones the least set as bits. */
    private int fewest(Test test, int what) {
        for (int size = 0; size <= 7; size++) {
            for (int bits = 0; bits < 128; bits++) {
                Set<Integer> who = set(bits);
                if (who.size() != size || !who.stream().allMatch(this::silent)) continue;
                if (test.of(who)) return what == 0 ? size : bits;
            }
        }
        return -1;
    }

    int choir(int n, int what) {
        if (n < 1 || n > 30 || what < 0 || what > 1) return -1;
        return fewest(who -> rise(telling(now, who), n) > 0, what);
    }

    int power(int person) {
        if (!silent(person)) return -1;
        int count = 0;
        for (int bits = 0; bits < 128; bits++) {
            Set<Integer> who = set(bits);
            if (who.contains(person) || !who.stream().allMatch(this::silent)) continue;
            boolean without = rise(telling(now, who), 1) > 0;
            who.add(person);
            if (!without && rise(telling(now, who), 1) > 0) count++;
        }
        return count;
    }

    int serve(int what) {
        if (what < 0 || what > 1) return -1;
        int best = 0;
        for (int bits = 0; bits < 16; bits++) {
            List<Integer> vat = now.vat;
            boolean can = true;
            for (int basin : set(bits)) {
                can = can && isBasin(basin) && !now.eased.contains(basin) && holds(vat, basin);
                if (can) vat = washed(vat, basin);
            }
            if (can && Integer.bitCount(bits) > Integer.bitCount(best)) best = bits;
        }
        return what == 0 ? Integer.bitCount(best) : best;
    }

    int balm(int basin, int what) {
        if (!isBasin(basin) || what < 0 || what > 1) return -1;
        return fewest(who -> holds(telling(now, who).vat, basin), what);
    }

    int cook(int basin) {
        if (!isBasin(basin)) return -1;
        State s = now;
        for (int n = 0; n <= 60; n++) {
            if (holds(s.vat, basin)) return n;
            s = lived(s, false, true);
        }
        return -1;
    }

    int lacks(int basin) {
        if (!isBasin(basin)) return -1;
        int sum = 0;
        for (Map.Entry<Integer, Integer> want : works.wants.get(basin).entrySet()) {
            if (want.getValue() > now.vat.get(want.getKey())) sum += want.getValue() - now.vat.get(want.getKey());
        }
        return sum;
    }

    int rest() {
        State s = now;
        for (int n = 0; n <= 60; n++) {
            State next = lived(s, false, false);
            if (next.vat.equals(s.vat)) return n;
            s = next;
        }
        return -1;
    }

    private void orders(List<Integer> order, List<List<Integer>> all) {
        if (order.size() == works.rules.size()) all.add(new ArrayList<>(order));
        for (int r = 0; r < works.rules.size(); r++) {
            if (order.contains(r)) continue;
            order.add(r);
            orders(order, all);
            order.remove(order.size() - 1);
        }
    }

    int order(int kind) {
        lying = new ArrayList<>();
        if (!isKind(kind)) return -1;
        List<List<Integer>> all = new ArrayList<>();
        orders(new ArrayList<>(), all);
        int most = -1;
        for (List<Integer> order : all) {
            int much = boiled(now.vat, order, -1).get(kind);
            if (much <= most) continue;
            most = much;
            lying = order;
        }
        return most;
    }

    /** The fewest RULES, one at least, from a KIND to another one; -1 if it can't come. */
    private int way(int kind, int other) {
        Set<Integer> come = new TreeSet<>(Set.of(kind));
        for (int n = 1; n <= 10; n++) {
            Set<Integer> next = new TreeSet<>();
            for (int[] rule : works.rules) if (come.contains(rule[0]) || come.contains(rule[1])) next.add(rule[2]);
            if (next.contains(other)) return n;
            come = next;
        }
        return -1;
    }

    int comes(int kind) {
        if (!isKind(kind)) return -1;
        int bits = 0;
        for (int other = 0; other < works.kinds.size(); other++) if (way(kind, other) > 0) bits |= 1 << other;
        return bits;
    }

    int steps(int kind, int other) {
        if (!isKind(kind) || !isKind(other)) return -1;
        return kind == other ? 0 : way(kind, other);
    }

    private int[] gains(int person, int other, int first, int second) {
        Set<Integer> who = new TreeSet<>();
        if (first == 1) who.add(person);
        if (second == 1) who.add(other);
        if (rise(telling(now, who), 1) > 0) return new int[] {-5, -5};
        return new int[] {first * heavy(person), second * heavy(other)};
    }

    private int heavy(int person) {
        return sum(new ArrayList<>(works.minds.get(person).values()));
    }

    int duel(int person, int other) {
        lying = new ArrayList<>();
        if (person == other || !silent(person) || !silent(other)) return -1;
        int rests = 0;
        for (int first = 0; first < 2; first++) {
            for (int second = 0; second < 2; second++) {
                int[] here = gains(person, other, first, second);
                if (gains(person, other, 1 - first, second)[0] > here[0]) continue;
                if (gains(person, other, first, 1 - second)[1] > here[1]) continue;
                if (rests == 0) lying = new ArrayList<>(List.of(first, second));
                rests++;
            }
        }
        return rests;
    }

    int nearest() {
        int best = -1;
        for (int b = works.basins.size() - 1; b >= 0; b--) {
            if (!now.eased.contains(b) && (best < 0 || lacks(b) <= lacks(best))) best = b;
        }
        return best;
    }

    int wanted(int kind) {
        if (!isKind(kind)) return -1;
        int sum = 0;
        for (int b = 0; b < works.basins.size(); b++) if (!now.eased.contains(b)) sum += wants(b, kind);
        return sum;
    }

    int sinners(int kind) {
        if (!isKind(kind)) return -1;
        Set<Integer> who = new TreeSet<>();
        for (int p = 0; p < works.people.size(); p++) if (works.minds.get(p).containsKey(kind)) who.add(p);
        return bits(who);
    }

    int inert() {
        Set<Integer> kinds = new TreeSet<>();
        for (int k = 0; k < works.kinds.size(); k++) kinds.add(k);
        for (int[] rule : works.rules) for (int i = 0; i < 3; i++) kinds.remove(rule[i]);
        return bits(kinds);
    }

    int alive() {
        Set<Integer> rules = new TreeSet<>();
        for (int r : asTold()) if (!boiled(now.vat, List.of(r), -1).equals(now.vat)) rules.add(r);
        return bits(rules);
    }

    int thickest() {
        return now.vat.isEmpty() ? -1 : now.vat.indexOf(Collections.max(now.vat));
    }

    int thinnest() {
        return now.vat.isEmpty() ? -1 : now.vat.indexOf(Collections.min(now.vat));
    }

    int makers(int kind) {
        if (!isKind(kind)) return -1;
        Set<Integer> rules = new TreeSet<>();
        for (int r : asTold()) if (works.rules.get(r)[2] == kind) rules.add(r);
        return bits(rules);
    }

    int heaviest() {
        int best = -1;
        for (int p = works.people.size() - 1; p >= 0; p--) {
            if (silent(p) && (best < 0 || heavy(p) >= heavy(best))) best = p;
        }
        return best;
    }

    int law(int n) {
        return n < 0 || n > 99 ? -1 : sum(boiled(now.vat, asTold(), n));
    }

    int mission() {
        Set<Integer> who = new TreeSet<>();
        for (int p = 0; p < works.people.size(); p++) if (silent(p)) who.add(p);
        return sum(telling(now, who).vat);
    }

    int odds(int n, int part) {
        if (n < 0 || n > 4 || part < 0 || part > 1) return -1;
        BigInteger upper = BigInteger.valueOf(100 - scum()).pow(n);
        BigInteger lower = BigInteger.valueOf(100).pow(n);
        BigInteger shared = upper.gcd(lower);
        return (part == 0 ? upper : lower).divide(shared).intValueExact();
    }

    int lies(int i) {
        return i < 0 || i >= lying.size() ? -2 : lying.get(i);
    }

    // ---- what is seen

    int seen(int boilings, int kind, int much, boolean is) {
        if (boilings < 0 || boilings > 12 || !isKind(kind) || much < 0 || much > 999) return -1;
        if (sightings.size() == 30 || works.people.isEmpty()) return -1;
        sightings.add(new Seen(boilings, kind, much, is, time, new int[] {Integer.MAX_VALUE}));
        return sightings.size() - 1;
    }

    boolean untell(int seen) {
        if (seen < 0 || seen >= sightings.size() || sightings.get(seen).untold[0] <= time) return false;
        sightings.get(seen).untold[0] = time;
        return true;
    }

    int later(int by) {
        if (by < 0 || by > 1000 || time + by > 100000) return -1;
        time += by;
        return time;
    }

    private int then(int had, int boilings, int kind) {
        int last = works.people.size() - 1;
        Map<Integer, Integer> mind = new HashMap<>(works.minds.get(last));
        mind.put(works.lastKind, had);
        List<Integer> vat = new ArrayList<>(Collections.nCopies(works.kinds.size(), 0));
        for (int p = 0; p <= last; p++) {
            (p == last ? mind : works.minds.get(p)).forEach((k, much) -> vat.set(k, vat.get(k) + much));
        }
        List<Integer> boiling = vat;
        for (int n = 0; n < boilings; n++) boiling = boiled(boiling);
        return boiling.get(kind);
    }

    private List<Integer> fitting(int k) {
        List<Integer> all = new ArrayList<>();
        for (int had = 0; had <= 30 && !works.people.isEmpty(); had++) {
            boolean fits = true;
            for (Seen s : sightings) {
                if (s.told > k || s.untold[0] < Integer.MAX_VALUE && s.untold[0] <= k) continue;
                fits = fits && then(had, s.boilings, s.kind) >= s.much == s.is;
            }
            if (fits) all.add(had);
        }
        return all;
    }

    int fits(int k) {
        return fitting(k).size();
    }

    int sure(int what, int k) {
        List<Integer> all = fitting(k);
        if (what < 0 || what > 1 || all.isEmpty()) return -1;
        return what == 0 ? all.get(0) : all.get(all.size() - 1);
    }

    int ask(int boilings, int what, int k) {
        List<Integer> all = fitting(k);
        if (boilings < 0 || boilings > 12 || what < 0 || what > 1 || all.isEmpty()) return -1;
        int[] best = {-1, 100};
        for (int kind = 0; kind < works.kinds.size(); kind++) {
            Map<Integer, Integer> left = new HashMap<>();
            for (int had : all) left.merge(then(had, boilings, kind), 1, Integer::sum);
            int most = Collections.max(left.values());
            if (most < best[1]) best = new int[] {kind, most};
        }
        return best[what];
    }

    // ---- images, and all the rest

    int image(int box) {
        if (box < 0 || box > 2) return -1;
        boxes.put(box, now);
        return now.day;
    }

    int back(int box) {
        if (!boxes.containsKey(box)) return -1;
        now = boxes.get(box);
        past.clear();
        future.clear();
        return now.day;
    }

    int about(int what) {
        int[] all = {works.people.size(), works.kinds.size(), works.rules.size(), works.basins.size(), bits(now.told),
            bits(now.eased), now.street, now.day, now.seed, past.size(), future.size(), sightings.size(), time,
            tape.size(), works.units, lying.size(), scum()};
        return what < 0 || what >= all.length ? -1 : all[what];
    }
}
