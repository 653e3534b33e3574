import java.util.Arrays;

/**
 * A soap works told in a text: what is confessed comes into a vat, is boiled by rules, rises or
 * eases basins. Every row that a call needs is made in the constructor and used again, so that
 * no call makes an object.
 */
public final class SoapWorks {
    public static final int NONE = -1;

    private static final int NO_NUMBER = -2;
    private static final int MOST_BYTES = 1600;
    private static final int BYTES_FED = 20;
    private static final int MOST_KINDS = 5;
    private static final int MOST_PEOPLE = 7;
    private static final int MOST_RULES = 6;
    private static final int MOST_BASINS = 4;
    private static final int MOST_OF_KIND = 999;
    private static final int LAST_DAY = 999;
    private static final int FAR = 60;
    private static final int CHOIR_FAR = 30;
    private static final int LAW_MOST = 99;
    private static final int ODDS_FAR = 4;
    private static final int LATER_MOST = 1000;
    private static final int LAST_TIME = 100000;

    private final Reader reader = new Reader();
    private Plan plan = new Plan();
    private final Vat now = new Vat();
    private final Acts acts = new Acts();
    private final Boxes boxes = new Boxes();
    private final Outlook outlook = new Outlook();
    private final Sightings sightings = new Sightings();
    private final int[] lying = new int[MOST_RULES];
    private int lyingCount;
    private int time;

    public SoapWorks() {
    }

    public int feed(int a, int b, int c, int d, int e) {
        Tape tape = reader.tape;
        if (tape.length + BYTES_FED > MOST_BYTES) return NONE;
        tape.append(a);
        tape.append(b);
        tape.append(c);
        tape.append(d);
        tape.append(e);
        return tape.length;
    }

    public int end(int n) {
        if (n < 0 || n > reader.tape.length) return NONE;
        reader.tape.length = n;
        return n;
    }

    public int works() {
        reader.begin();
        boolean isRead = true;
        for (int lines = 0; lines < MOST_BYTES && isRead && !reader.isAtEnd(); lines++) isRead = reader.readLine();
        reader.tape.length = 0;
        if (!isRead) return NONE;
        Plan before = plan;
        plan = reader.plan;
        reader.plan = before;
        now.begin(plan.draw);
        acts.forget();
        boxes.forget();
        sightings.forget();
        lyingCount = 0;
        return plan.people;
    }

    public int fault(int what) {
        if (what == 0) return reader.faultNumber;
        if (what == 1) return reader.faultPlace;
        return NONE;
    }

    public int vat(int kind) {
        return plan.isKind(kind) ? now.much[kind] : NONE;
    }

    public int mind(int person, int kind) {
        return plan.isPerson(person) && plan.isKind(kind) ? plan.has(person, kind) : NONE;
    }

    public int wants(int basin, int kind) {
        return plan.isBasin(basin) && plan.isKind(kind) ? plan.needs(basin, kind) : NONE;
    }

    public int rule(int rule, int what) {
        if (rule < 0 || rule >= plan.rules || what < 0 || what >= Plan.RULE_PARTS) return NONE;
        return plan.ruleParts[rule * Plan.RULE_PARTS + what];
    }

    public int confess(int person) {
        if (!isSilent(person)) return NONE;
        acts.keep(now);
        plan.tell(now, 1 << person);
        return now.all();
    }

    public int boil() {
        if (now.day >= LAST_DAY) return NONE;
        acts.keep(now);
        return plan.boilInEarnest(now, true) ? 1 : 0;
    }

    public int wash(int basin) {
        if (!plan.isBasin(basin) || isEased(basin)) return NONE;
        if (plan.lacking(now.much, basin) > 0) return NONE;
        acts.keep(now);
        for (int kind = 0; kind < plan.kinds; kind++) now.much[kind] -= plan.needs(basin, kind);
        now.eased |= 1 << basin;
        return now.all();
    }

    public int sweep(int kind) {
        if (!plan.isKind(kind) || now.much[kind] == 0) return NONE;
        acts.keep(now);
        int swept = now.much[kind];
        now.much[kind] = 0;
        return swept;
    }

    public boolean undo() {
        return acts.takeBack(now);
    }

    public boolean redo() {
        return acts.doAgain(now);
    }

    public int will(int kind, int n, int what) {
        if (!plan.isKind(kind) || n < 0 || n > FAR || what < 0 || what > 1) return NONE;
        return outlook.muchBehind(plan, now, kind, n, what == 1);
    }

    public int rise() {
        return outlook.riseIf(plan, now, 0, FAR);
    }

    public int rouser(int what) {
        if (what < 0 || what > 1) return NONE;
        int best = NONE;
        int soonest = FAR + 1;
        for (int person = 0; person < plan.people; person++) {
            if (!isSilent(person)) continue;
            int rise = outlook.riseIf(plan, now, 1 << person, FAR);
            if (rise != NONE && rise < soonest) {
                soonest = rise;
                best = person;
            }
        }
        if (best == NONE) return NONE;
        return what == 0 ? best : soonest;
    }

    public int choir(int n, int what) {
        if (n < 1 || n > CHOIR_FAR || what < 0 || what > 1) return NONE;
        int silent = silentOnes();
        int best = NONE;
        for (int set = 0; set <= silent; set++) {
            if ((set & ~silent) != 0 || !isFewer(set, best)) continue;
            if (outlook.riseIf(plan, now, set, n) != NONE) best = set;
        }
        return countOrBits(best, what);
    }

    public int power(int person) {
        if (!isSilent(person)) return NONE;
        int himself = 1 << person;
        int others = silentOnes() & ~himself;
        int sets = 0;
        for (int set = 0; set <= others; set++) {
            if ((set & ~others) != 0 || outlook.riseIf(plan, now, set, 1) != NONE) continue;
            if (outlook.riseIf(plan, now, set | himself, 1) != NONE) sets++;
        }
        return sets;
    }

    public int serve(int what) {
        if (what < 0 || what > 1) return NONE;
        int best = 0;
        for (int set = 1; set < 1 << plan.basins; set++) {
            if ((set & now.eased) != 0 || !isFewer(best, set)) continue;
            if (plan.canServe(now.much, set)) best = set;
        }
        return countOrBits(best, what);
    }

    public int balm(int basin, int what) {
        if (!plan.isBasin(basin) || what < 0 || what > 1) return NONE;
        int silent = silentOnes();
        int best = NONE;
        for (int set = 0; set <= silent; set++) {
            if ((set & ~silent) != 0 || !isFewer(set, best)) continue;
            if (outlook.wouldHold(plan, now, set, basin)) best = set;
        }
        return countOrBits(best, what);
    }

    public int cook(int basin) {
        return plan.isBasin(basin) ? outlook.boilingsTill(plan, now, basin) : NONE;
    }

    public int lacks(int basin) {
        return plan.isBasin(basin) ? plan.lacking(now.much, basin) : NONE;
    }

    public int rest() {
        return outlook.boilingsToRest(plan, now);
    }

    public int order(int kind) {
        lyingCount = 0;
        if (!plan.isKind(kind)) return NONE;
        lyingCount = plan.rules;
        return outlook.mostByOrder(plan, now, kind, lying);
    }

    public int comes(int kind) {
        if (!plan.isKind(kind)) return NONE;
        int come = plan.madeOf(1 << kind);
        for (int i = 1; i < MOST_KINDS; i++) come |= plan.madeOf(come);
        return come;
    }

    public int steps(int kind, int other) {
        if (!plan.isKind(kind) || !plan.isKind(other)) return NONE;
        int reached = 1 << kind;
        for (int n = 0; n < MOST_KINDS; n++) {
            if ((reached >> other & 1) == 1) return n;
            reached |= plan.madeOf(reached);
        }
        return NONE;
    }

    public int duel(int person, int other) {
        lyingCount = 0;
        if (person == other || !isSilent(person) || !isSilent(other)) return NONE;
        int rests = outlook.duelRests(plan, now, person, other);
        if (rests == 0) return 0;
        int first = Integer.numberOfTrailingZeros(rests);
        lying[0] = first >> 1;
        lying[1] = first & 1;
        lyingCount = 2;
        return Integer.bitCount(rests);
    }

    public int nearest() {
        int best = NONE;
        int least = 0;
        for (int basin = 0; basin < plan.basins; basin++) {
            int lack = plan.lacking(now.much, basin);
            if (isEased(basin) || best != NONE && lack >= least) continue;
            least = lack;
            best = basin;
        }
        return best;
    }

    public int wanted(int kind) {
        if (!plan.isKind(kind)) return NONE;
        int sum = 0;
        for (int basin = 0; basin < plan.basins; basin++) {
            if (!isEased(basin)) sum += plan.needs(basin, kind);
        }
        return sum;
    }

    public int sinners(int kind) {
        if (!plan.isKind(kind)) return NONE;
        int who = 0;
        for (int person = 0; person < plan.people; person++) {
            if (plan.has(person, kind) > 0) who |= 1 << person;
        }
        return who;
    }

    public int inert() {
        int kinds = (1 << plan.kinds) - 1;
        for (int rule = 0; rule < plan.rules; rule++) {
            kinds &= ~(1 << plan.first(rule) | 1 << plan.second(rule) | 1 << plan.third(rule));
        }
        return kinds;
    }

    public int alive() {
        int rules = 0;
        for (int rule = 0; rule < plan.rules; rule++) {
            if (plan.turning(now.much, rule, plan.limit(rule)) > 0) rules |= 1 << rule;
        }
        return rules;
    }

    public int thickest() {
        int best = NONE;
        for (int kind = 0; kind < plan.kinds; kind++) {
            if (best == NONE || now.much[kind] > now.much[best]) best = kind;
        }
        return best;
    }

    public int thinnest() {
        int best = NONE;
        for (int kind = 0; kind < plan.kinds; kind++) {
            if (best == NONE || now.much[kind] < now.much[best]) best = kind;
        }
        return best;
    }

    public int makers(int kind) {
        if (!plan.isKind(kind)) return NONE;
        int rules = 0;
        for (int rule = 0; rule < plan.rules; rule++) {
            if (plan.third(rule) == kind) rules |= 1 << rule;
        }
        return rules;
    }

    public int heaviest() {
        int best = NONE;
        for (int person = 0; person < plan.people; person++) {
            if (!isSilent(person)) continue;
            if (best == NONE || plan.burden(person) > plan.burden(best)) best = person;
        }
        return best;
    }

    public int law(int n) {
        return n < 0 || n > LAW_MOST ? NONE : outlook.allUnderLaw(plan, now, n);
    }

    public int mission() {
        int sum = now.all();
        for (int person = 0; person < plan.people; person++) {
            if (isSilent(person)) sum += plan.burden(person);
        }
        return sum;
    }

    public int odds(int n, int part) {
        if (n < 0 || n > ODDS_FAR || part < 0 || part > 1) return NONE;
        int upper = 1;
        int lower = 1;
        for (int i = 0; i < n; i++) {
            upper *= 100 - plan.scum;
            lower *= 100;
        }
        int shared = commonDivisor(lower, upper);
        if (shared == 0) return NONE;
        return part == 0 ? upper / shared : lower / shared;
    }

    public int lies(int i) {
        return i < 0 || i >= lyingCount || i >= lying.length ? NO_NUMBER : lying[i];
    }

    public int seen(int boilings, int kind, int much, boolean is) {
        if (plan.people == 0 || !plan.isKind(kind)) return NONE;
        if (boilings < 0 || boilings > Sightings.LAST_BOILING) return NONE;
        if (much < 0 || much > MOST_OF_KIND) return NONE;
        return sightings.add(boilings, kind, much, is, time);
    }

    public boolean untell(int seen) {
        return sightings.takeBack(seen, time);
    }

    public int later(int by) {
        if (by < 0 || by > LATER_MOST || time + by > LAST_TIME) return NONE;
        time += by;
        return time;
    }

    public int fits(int k) {
        return Integer.bitCount(sightings.fitting(plan, k));
    }

    public int sure(int what, int k) {
        if (what < 0 || what > 1) return NONE;
        int fitting = sightings.fitting(plan, k);
        if (fitting == 0) return NONE;
        return what == 0 ? Integer.numberOfTrailingZeros(fitting) : 31 - Integer.numberOfLeadingZeros(fitting);
    }

    public int ask(int boilings, int what, int k) {
        if (boilings < 0 || boilings > Sightings.LAST_BOILING || what < 0 || what > 1) return NONE;
        int fitting = sightings.fitting(plan, k);
        if (fitting == 0) return NONE;
        int best = NONE;
        int fewest = 0;
        for (int kind = 0; kind < plan.kinds; kind++) {
            int left = sightings.leftAtMost(fitting, boilings, kind);
            if (best == NONE || left < fewest) {
                fewest = left;
                best = kind;
            }
        }
        return what == 0 ? best : fewest;
    }

    public int image(int box) {
        if (!boxes.isBox(box)) return NONE;
        boxes.put(box, now);
        return now.day;
    }

    public int back(int box) {
        if (!boxes.isBox(box) || !boxes.full[box]) return NONE;
        boxes.take(box, now);
        acts.forget();
        return now.day;
    }

    public int about(int what) {
        switch (what) {
            case 0: return plan.people;
            case 1: return plan.kinds;
            case 2: return plan.rules;
            case 3: return plan.basins;
            case 4: return now.told;
            case 5: return now.eased;
            case 6: return now.street;
            case 7: return now.day;
            case 8: return now.seed;
            case 9: return acts.undoable();
            case 10: return acts.redoable();
            case 11: return sightings.count;
            case 12: return time;
            case 13: return reader.tape.length;
            case 14: return plan.rises.units;
            case 15: return lyingCount;
            case 16: return plan.scum;
            default: return NONE;
        }
    }

    private boolean isSilent(int person) {
        return plan.isPerson(person) && (now.told >> person & 1) == 0;
    }

    private int silentOnes() {
        return ((1 << plan.people) - 1) & ~now.told;
    }

    private boolean isEased(int basin) {
        return (now.eased >> basin & 1) == 1;
    }

    /** Sets are tried from the least on, so a like one never takes an earlier one's place. */
    private static boolean isFewer(int set, int than) {
        return than == NONE || Integer.bitCount(set) < Integer.bitCount(than);
    }

    private static int countOrBits(int set, int what) {
        if (set == NONE) return NONE;
        return what == 0 ? Integer.bitCount(set) : set;
    }

    private static int commonDivisor(int a, int b) {
        int left = a;
        int right = b;
        for (int i = 0; i < 64 && right != 0; i++) {
            int remainder = left % right;
            left = right;
            right = remainder;
        }
        return left;
    }

    /** The TAPE's bytes, and the TOKENS as they are read off it, one at a time. */
    private static final class Tape {
        static final int END = 0;
        static final int NO_TOKEN = 1;
        static final int WORD = 2;
        static final int NUMBER = 3;
        static final int SIGN = 4;

        static final int KIND = 0;
        static final int PERSON = 1;
        static final int BOILS = 2;
        static final int BASIN = 3;
        static final int RISES = 4;
        static final int SCUM = 5;
        static final int DRAW = 6;
        static final int HAS = 7;
        static final int INTO = 8;
        static final int WANTS = 9;
        static final int OR = 10;
        static final int AND = 11;
        static final int NOT = 12;
        static final int ALL = 13;
        static final int DAY = 18;

        private static final String KEYS =
                "kind person boils basin rises scum draw has into wants or and not all kinds most least tellers day";
        private static final String SIGNS = ";()<>=+-*/%";
        private static final int LONGEST_WORD = 8;
        private static final int LONGEST_NUMBER = 4;

        final byte[] bytes = new byte[MOST_BYTES];
        int length;

        private final long[] keys = spellings(KEYS);
        private int at;

        int sort;
        int place;
        long spelling;
        int key;
        int number;
        int sign;

        /** The caller has seen to it that there is room. */
        void append(int fourBytes) {
            for (int shift = 24; shift >= 0 && length < MOST_BYTES; shift -= 8) {
                bytes[length] = (byte) (fourBytes >> shift);
                length++;
            }
        }

        void readFirst() {
            at = 0;
            readNext();
        }

        void readNext() {
            key = NONE;
            sign = 0;
            while (at < length && isBlank(bytes[at])) at++;
            place = at;
            if (at >= length) {
                sort = END;
            } else if (isLetter(bytes[at])) {
                readWord();
            } else if (isDigit(bytes[at])) {
                readNumber();
            } else {
                readSign();
            }
        }

        boolean isName() {
            return sort == WORD && key == NONE;
        }

        private void readWord() {
            spelling = 0;
            while (at < length && isLetter(bytes[at])) {
                spelling = spelled(spelling, bytes[at]);
                at++;
            }
            sort = at - place > LONGEST_WORD ? NO_TOKEN : WORD;
            if (sort == WORD) key = find(keys, keys.length, spelling);
        }

        private void readNumber() {
            number = 0;
            while (at < length && isDigit(bytes[at])) {
                number = number * 10 + bytes[at] - '0';
                at++;
            }
            boolean letterBehind = at < length && isLetter(bytes[at]);
            sort = letterBehind || at - place > LONGEST_NUMBER ? NO_TOKEN : NUMBER;
        }

        private void readSign() {
            int here = bytes[at];
            sort = here > 0 && SIGNS.indexOf((char) here) >= 0 ? SIGN : NO_TOKEN;
            if (sort == SIGN) sign = here;
            at++;
        }

        static int find(long[] names, int count, long name) {
            for (int i = 0; i < count && i < names.length; i++) {
                if (names[i] == name) return i;
            }
            return NONE;
        }

        private static long[] spellings(String words) {
            long[] all = new long[DAY + 1];
            int word = 0;
            for (int i = 0; i < words.length() && word < all.length; i++) {
                if (words.charAt(i) == ' ') {
                    word++;
                } else {
                    all[word] = spelled(all[word], words.charAt(i));
                }
            }
            return all;
        }

        /** Base 27 without a zero: no two words of eight letters at most have one number. */
        private static long spelled(long before, int letter) {
            return before * 27 + letter - 'a' + 1;
        }

        private static boolean isBlank(int c) {
            return c == 32 || c == 10;
        }

        private static boolean isLetter(int c) {
            return c >= 'a' && c <= 'z';
        }

        private static boolean isDigit(int c) {
            return c >= '0' && c <= '9';
        }
    }

    /** Reads the TAPE into a plan of its own, which the works then takes in exchange for its old one. */
    private static final class Reader {
        private static final int NO_SUCH_TOKEN = 1;
        private static final int OUT_OF_PLACE = 2;
        private static final int TOLD_ALREADY = 3;
        private static final int NO_SUCH_NUMBER = 4;
        private static final int NO_SUCH_KIND = 5;

        private static final int LEVEL_OR = 0;
        private static final int LEVEL_AND = 1;
        private static final int LEVEL_ONE = 2;
        private static final int LEVEL_SUM = 3;
        private static final int LEVEL_TERM = 4;
        private static final int LEVEL_UNIT = 5;
        private static final int DEEPEST = 7;

        final Tape tape = new Tape();
        Plan plan = new Plan();
        int faultNumber;
        int faultPlace = NONE;
        private int lastPortion;

        void begin() {
            faultNumber = 0;
            faultPlace = NONE;
            plan.clear();
            tape.readFirst();
        }

        boolean isAtEnd() {
            return tape.sort == Tape.END;
        }

        boolean readLine() {
            switch (tape.key) {
                case Tape.KIND: return readKind();
                case Tape.PERSON: return readPerson();
                case Tape.BOILS: return readRule();
                case Tape.BASIN: return readBasin();
                case Tape.RISES: return readRises();
                case Tape.SCUM: return readScum();
                case Tape.DRAW: return readDraw();
                default: return refuse(OUT_OF_PLACE);
            }
        }

        /** Where no TOKEN can be read, that is the fault, whatever was looked for. */
        private boolean refuse(int number) {
            faultNumber = tape.sort == Tape.NO_TOKEN ? NO_SUCH_TOKEN : number;
            faultPlace = tape.place;
            return false;
        }

        private boolean readKind() {
            if (plan.kinds >= MOST_KINDS) return refuse(OUT_OF_PLACE);
            tape.readNext();
            if (!readNewName(plan.kindNames, plan.kinds)) return false;
            plan.kinds++;
            return readSign(';');
        }

        private boolean readPerson() {
            if (plan.people >= MOST_PEOPLE) return refuse(OUT_OF_PLACE);
            tape.readNext();
            if (!readNewName(plan.personNames, plan.people) || !readKey(Tape.HAS)) return false;
            if (!readPortions(plan.minds, plan.people)) return false;
            plan.people++;
            plan.lastKind = lastPortion;
            return true;
        }

        private boolean readBasin() {
            if (plan.basins >= MOST_BASINS) return refuse(OUT_OF_PLACE);
            tape.readNext();
            if (!readNewName(plan.basinNames, plan.basins) || !readKey(Tape.WANTS)) return false;
            if (!readPortions(plan.basinNeeds, plan.basins)) return false;
            plan.basins++;
            return true;
        }

        private boolean readRule() {
            if (plan.rules >= MOST_RULES) return refuse(OUT_OF_PLACE);
            tape.readNext();
            int first = readKnownKind();
            if (first == NONE) return false;
            int second = readKnownKind();
            if (second == NONE || !readKey(Tape.INTO)) return false;
            int third = readKnownKind();
            if (third == NONE) return false;
            int limit = readNumber(1, 9);
            if (limit == NONE) return false;
            plan.addRule(first, second, third, limit);
            return readSign(';');
        }

        private boolean readRises() {
            if (plan.rises.units > 0) return refuse(OUT_OF_PLACE);
            tape.readNext();
            return readFormula(LEVEL_OR, 0) && readSign(';');
        }

        private boolean readScum() {
            if (plan.scumTold) return refuse(OUT_OF_PLACE);
            tape.readNext();
            int scum = readNumber(0, 100);
            if (scum == NONE) return false;
            plan.scum = scum;
            plan.scumTold = true;
            return readSign(';');
        }

        private boolean readDraw() {
            if (plan.drawTold) return refuse(OUT_OF_PLACE);
            tape.readNext();
            int draw = readNumber(0, 999);
            if (draw == NONE) return false;
            plan.draw = draw;
            plan.drawTold = true;
            return readSign(';');
        }

        /** Of unlike KINDS: behind as many portions as there can be KINDS nothing but the line's end can stand. */
        private boolean readPortions(int[] table, int row) {
            for (int portions = 0; portions <= MOST_KINDS; portions++) {
                if (portions > 0 && tape.sign == ';') return readSign(';');
                int kind = knownKind();
                if (kind == NONE) return false;
                int cell = row * MOST_KINDS + kind;
                if (cell >= table.length) return refuse(OUT_OF_PLACE);
                if (table[cell] > 0) return refuse(TOLD_ALREADY);
                tape.readNext();
                int much = readNumber(1, 20);
                if (much == NONE) return false;
                table[cell] = much;
                lastPortion = kind;
            }
            return refuse(OUT_OF_PLACE);
        }

        private boolean readNewName(long[] names, int count) {
            if (!tape.isName() || count >= names.length) return refuse(OUT_OF_PLACE);
            if (Tape.find(names, count, tape.spelling) != NONE) return refuse(TOLD_ALREADY);
            names[count] = tape.spelling;
            tape.readNext();
            return true;
        }

        private int knownKind() {
            if (!tape.isName()) {
                refuse(OUT_OF_PLACE);
                return NONE;
            }
            int kind = Tape.find(plan.kindNames, plan.kinds, tape.spelling);
            if (kind == NONE) refuse(NO_SUCH_KIND);
            return kind;
        }

        private int readKnownKind() {
            int kind = knownKind();
            if (kind != NONE) tape.readNext();
            return kind;
        }

        private int readNumber(int least, int most) {
            if (tape.sort != Tape.NUMBER) {
                refuse(OUT_OF_PLACE);
                return NONE;
            }
            int number = tape.number;
            if (number < least || number > most) {
                refuse(NO_SUCH_NUMBER);
                return NONE;
            }
            tape.readNext();
            return number;
        }

        private boolean readKey(int key) {
            if (tape.key != key) return refuse(OUT_OF_PLACE);
            tape.readNext();
            return true;
        }

        private boolean readSign(int sign) {
            if (tape.sign != sign) return refuse(OUT_OF_PLACE);
            tape.readNext();
            return true;
        }

        /** Each level is made of parts of the next one, joined by the signs that are its own. */
        private boolean readFormula(int level, int depth) {
            if (level >= LEVEL_UNIT) return readUnit(depth);
            if (level == LEVEL_ONE && tape.key == Tape.NOT) return readNot(depth);
            if (!readFormula(level + 1, depth)) return false;
            for (int parts = 1; parts <= Formula.MOST_UNITS; parts++) {
                int sign = signOfLevel(level);
                if (sign == 0) return true;
                tape.readNext();
                if (!readFormula(level + 1, depth)) return false;
                plan.rises.add(-sign);
                if (level == LEVEL_ONE) return true;
            }
            return true;
        }

        private boolean readNot(int depth) {
            if (depth >= DEEPEST) return refuse(OUT_OF_PLACE);
            tape.readNext();
            if (!readFormula(LEVEL_ONE, depth + 1)) return false;
            plan.rises.add(-'!');
            return true;
        }

        private boolean readUnit(int depth) {
            boolean isQuantity = tape.key >= Tape.ALL;
            if (tape.sort != Tape.NUMBER && !isQuantity && tape.sign != '(') return refuse(OUT_OF_PLACE);
            if (plan.rises.units >= Formula.MOST_UNITS) return refuse(OUT_OF_PLACE);
            if (tape.sign == '(' && depth >= DEEPEST) return refuse(OUT_OF_PLACE);
            plan.rises.units++;
            if (tape.sign == '(') {
                tape.readNext();
                if (!readFormula(LEVEL_OR, depth + 1)) return false;
                if (tape.sign != ')') return refuse(OUT_OF_PLACE);
                tape.readNext();
                return true;
            }
            plan.rises.add(isQuantity ? Formula.ALL - (tape.key - Tape.ALL) : tape.number);
            tape.readNext();
            return true;
        }

        private int signOfLevel(int level) {
            int sign = tape.sign;
            switch (level) {
                case LEVEL_OR: return tape.key == Tape.OR ? '|' : 0;
                case LEVEL_AND: return tape.key == Tape.AND ? '&' : 0;
                case LEVEL_ONE: return sign == '<' || sign == '>' || sign == '=' ? sign : 0;
                case LEVEL_SUM: return sign == '+' || sign == '-' ? sign : 0;
                case LEVEL_TERM: return sign == '*' || sign == '/' || sign == '%' ? sign : 0;
                default: return 0;
            }
        }
    }

    /**
     * What comes of rises, each operator behind what it joins. A number stands for itself; below 0
     * are the quantities from ALL on downwards, and the operators, as their signs' negatives.
     */
    private static final class Formula {
        static final int MOST_UNITS = 30;
        static final int ALL = -1;
        private static final int QUANTITIES = 6;
        private static final int NOT_RISING = 50;
        /** Thirty units, the signs between them, seven nots before each. */
        private static final int MOST_STEPS = 2 * MOST_UNITS + 7 * MOST_UNITS;

        int units;
        boolean hasDay;
        private int size;
        private final int[] program = new int[MOST_STEPS];
        private final int[] stack = new int[MOST_UNITS + 1];
        private final int[] known = new int[QUANTITIES];

        void clear() {
            units = 0;
            size = 0;
            hasDay = false;
        }

        void add(int step) {
            if (size >= program.length) return;
            program[size] = step;
            size++;
            if (step == ALL - (QUANTITIES - 1)) hasDay = true;
        }

        int worth(Vat vat, int kinds) {
            measure(vat, kinds);
            if (size == 0) return known[0] - NOT_RISING;
            int height = 0;
            for (int i = 0; i < size; i++) {
                int step = program[i];
                if (step == -'!') {
                    if (height > 0) stack[height - 1] = stack[height - 1] == 0 ? 1 : 0;
                } else if (step >= -QUANTITIES) {
                    if (height >= stack.length) return 0;
                    stack[height] = step >= 0 ? step : known[ALL - step];
                    height++;
                } else if (height > 1) {
                    height--;
                    stack[height - 1] = joined(-step, stack[height - 1], stack[height]);
                }
            }
            return stack[0];
        }

        private void measure(Vat vat, int kinds) {
            int all = 0;
            int some = 0;
            int most = 0;
            int least = kinds == 0 ? 0 : MOST_OF_KIND;
            for (int kind = 0; kind < kinds; kind++) {
                int much = vat.much[kind];
                all += much;
                if (much > 0) some++;
                most = Math.max(most, much);
                least = Math.min(least, much);
            }
            known[0] = all;
            known[1] = some;
            known[2] = most;
            known[3] = least;
            known[4] = Integer.bitCount(vat.told);
            known[5] = vat.day;
        }

        private static int joined(int sign, int left, int right) {
            switch (sign) {
                case '+': return left + right;
                case '-': return left - right;
                case '*': return left * right;
                case '/': return right == 0 ? 0 : left / right;
                case '%': return right == 0 ? 0 : left % right;
                case '<': return left < right ? 1 : 0;
                case '>': return left > right ? 1 : 0;
                case '=': return left == right ? 1 : 0;
                case '&': return left != 0 && right != 0 ? 1 : 0;
                default: return left != 0 || right != 0 ? 1 : 0;
            }
        }
    }

    /** The WORKS as told, and what a BOILING by it does to a vat. */
    private static final class Plan {
        static final int RULE_PARTS = 4;

        int kinds;
        int people;
        int rules;
        int basins;
        int scum;
        int draw;
        boolean scumTold;
        boolean drawTold;
        /** The last KIND told of the last of the PEOPLE: how much he has of it is what SEEN is about. */
        int lastKind;
        final long[] kindNames = new long[MOST_KINDS];
        final long[] personNames = new long[MOST_PEOPLE];
        final long[] basinNames = new long[MOST_BASINS];
        final int[] minds = new int[MOST_PEOPLE * MOST_KINDS];
        final int[] basinNeeds = new int[MOST_BASINS * MOST_KINDS];
        final int[] ruleParts = new int[MOST_RULES * RULE_PARTS];
        final Formula rises = new Formula();

        void clear() {
            kinds = 0;
            people = 0;
            rules = 0;
            basins = 0;
            scum = 0;
            draw = 0;
            scumTold = false;
            drawTold = false;
            lastKind = 0;
            Arrays.fill(minds, 0);
            Arrays.fill(basinNeeds, 0);
            rises.clear();
        }

        void addRule(int first, int second, int third, int limit) {
            if (rules >= MOST_RULES) return;
            int from = rules * RULE_PARTS;
            ruleParts[from] = first;
            ruleParts[from + 1] = second;
            ruleParts[from + 2] = third;
            ruleParts[from + 3] = limit;
            rules++;
        }

        boolean isKind(int kind) {
            return kind >= 0 && kind < kinds;
        }

        boolean isPerson(int person) {
            return person >= 0 && person < people;
        }

        boolean isBasin(int basin) {
            return basin >= 0 && basin < basins;
        }

        int has(int person, int kind) {
            return minds[person * MOST_KINDS + kind];
        }

        int needs(int basin, int kind) {
            return basinNeeds[basin * MOST_KINDS + kind];
        }

        int first(int rule) {
            return ruleParts[rule * RULE_PARTS];
        }

        int second(int rule) {
            return ruleParts[rule * RULE_PARTS + 1];
        }

        int third(int rule) {
            return ruleParts[rule * RULE_PARTS + 2];
        }

        int limit(int rule) {
            return ruleParts[rule * RULE_PARTS + 3];
        }

        /** What one of the PEOPLE has of all KINDS together. */
        int burden(int person) {
            int sum = 0;
            for (int kind = 0; kind < kinds; kind++) sum += has(person, kind);
            return sum;
        }

        void tell(Vat vat, int who) {
            for (int person = 0; person < people; person++) {
                if ((who >> person & 1) == 1) pour(vat.much, person);
            }
            vat.told |= who;
        }

        void pour(int[] much, int person) {
            for (int kind = 0; kind < kinds; kind++) {
                much[kind] = Math.min(MOST_OF_KIND, much[kind] + has(person, kind));
            }
        }

        int lacking(int[] much, int basin) {
            int sum = 0;
            for (int kind = 0; kind < kinds; kind++) sum += Math.max(0, needs(basin, kind) - much[kind]);
            return sum;
        }

        /** Washings only take away: all of a set can wash, in any order, if there is enough for them together. */
        boolean canServe(int[] much, int set) {
            for (int kind = 0; kind < kinds; kind++) {
                int need = 0;
                for (int basin = 0; basin < basins; basin++) {
                    if ((set >> basin & 1) == 1) need += needs(basin, kind);
                }
                if (need > much[kind]) return false;
            }
            return true;
        }

        /** The third KINDS of all RULES that one of these KINDS goes into. */
        int madeOf(int set) {
            int made = 0;
            for (int rule = 0; rule < rules; rule++) {
                if ((set >> first(rule) & 1) == 1 || (set >> second(rule) & 1) == 1) made |= 1 << third(rule);
            }
            return made;
        }

        int turning(int[] much, int rule, int limit) {
            int first = first(rule);
            int second = second(rule);
            int there = first == second ? much[first] / 2 : Math.min(much[first], much[second]);
            return Math.min(limit, there);
        }

        /** How much became another KIND: above 0, it is less in all than before. */
        int turn(int[] much, int rule, int limit) {
            int k = turning(much, rule, limit);
            int third = third(rule);
            much[first(rule)] -= k;
            much[second(rule)] -= k;
            much[third] = Math.min(MOST_OF_KIND, much[third] + k);
            return k;
        }

        boolean boilRules(int[] much) {
            int turned = 0;
            for (int rule = 0; rule < rules; rule++) turned += turn(much, rule, limit(rule));
            return turned > 0;
        }

        boolean isRisen(Vat vat) {
            return rises.worth(vat, kinds) > 0;
        }

        /** With all that comes behind a BOILING; whether it is out in the street. */
        boolean boilInEarnest(Vat vat, boolean withScum) {
            boilRules(vat.much);
            if (withScum) drawScum(vat);
            vat.day++;
            if (!isRisen(vat)) return false;
            Arrays.fill(vat.much, 0);
            vat.street++;
            return true;
        }

        private void drawScum(Vat vat) {
            vat.seed = (vat.seed * 137 + 71) % 1000;
            if (vat.seed % 100 >= scum) return;
            for (int kind = 0; kind < kinds; kind++) vat.much[kind] = Math.max(0, vat.much[kind] - 1);
        }
    }

    /** All that an ACT can change. */
    private static final class Vat {
        static final int LINE = MOST_KINDS + 5;

        final int[] much = new int[MOST_KINDS];
        int told;
        int eased;
        int street;
        int day;
        int seed;

        void begin(int draw) {
            Arrays.fill(much, 0);
            told = 0;
            eased = 0;
            street = 0;
            day = 0;
            seed = draw;
        }

        int all() {
            int sum = 0;
            for (int kind = 0; kind < MOST_KINDS; kind++) sum += much[kind];
            return sum;
        }

        void copy(Vat other) {
            System.arraycopy(other.much, 0, much, 0, MOST_KINDS);
            told = other.told;
            eased = other.eased;
            street = other.street;
            day = other.day;
            seed = other.seed;
        }

        void save(int[] lines, int line) {
            int from = line * LINE;
            if (line < 0 || from + LINE > lines.length) return;
            System.arraycopy(much, 0, lines, from, MOST_KINDS);
            lines[from + MOST_KINDS] = told;
            lines[from + MOST_KINDS + 1] = eased;
            lines[from + MOST_KINDS + 2] = street;
            lines[from + MOST_KINDS + 3] = day;
            lines[from + MOST_KINDS + 4] = seed;
        }

        void load(int[] lines, int line) {
            int from = line * LINE;
            if (line < 0 || from + LINE > lines.length) return;
            System.arraycopy(lines, from, much, 0, MOST_KINDS);
            told = lines[from + MOST_KINDS];
            eased = lines[from + MOST_KINDS + 1];
            street = lines[from + MOST_KINDS + 2];
            day = lines[from + MOST_KINDS + 3];
            seed = lines[from + MOST_KINDS + 4];
        }
    }

    /**
     * The vat as it was before each ACT that can be undone, then as it is (a line that is filled when
     * an ACT is taken back), then as it was behind each ACT that can be redone.
     */
    private static final class Acts {
        private static final int MOST = 40;

        private final int[] lines = new int[(MOST + 1) * Vat.LINE];
        private int here;
        private int last;

        void forget() {
            here = 0;
            last = 0;
        }

        int undoable() {
            return here;
        }

        int redoable() {
            return last - here;
        }

        void keep(Vat now) {
            if (here >= MOST) {
                System.arraycopy(lines, Vat.LINE, lines, 0, MOST * Vat.LINE);
                here = MOST - 1;
            }
            now.save(lines, here);
            here++;
            last = here;
        }

        boolean takeBack(Vat now) {
            if (here == 0) return false;
            now.save(lines, here);
            here--;
            now.load(lines, here);
            return true;
        }

        boolean doAgain(Vat now) {
            if (here == last) return false;
            here++;
            now.load(lines, here);
            return true;
        }
    }

    /** Images of the vat that can be gone on from. */
    private static final class Boxes {
        private static final int COUNT = 3;

        final boolean[] full = new boolean[COUNT];
        private final int[] lines = new int[COUNT * Vat.LINE];

        void forget() {
            for (int box = 0; box < COUNT; box++) full[box] = false;
        }

        boolean isBox(int box) {
            return box >= 0 && box < COUNT;
        }

        void put(int box, Vat now) {
            now.save(lines, box);
            full[box] = true;
        }

        void take(int box, Vat now) {
            now.load(lines, box);
        }
    }

    /** What lies ahead, tried out on a vat of its own: nothing is done to the one that is. */
    private static final class Outlook {
        private static final int ALL_ORDERS = 720;
        private static final int LOSS = -5;

        private final Vat ahead = new Vat();
        private final int[] trial = new int[MOST_KINDS];
        private final int[] inOrder = new int[MOST_RULES];

        /** Behind how many BOILINGS, so many at most, it is RISEN first, were these to tell now. */
        int riseIf(Plan plan, Vat now, int who, int most) {
            ahead.copy(now);
            plan.tell(ahead, who);
            boolean changes = true;
            for (int n = 1; n <= most; n++) {
                if (changes) changes = plan.boilRules(ahead.much);
                ahead.day++;
                if (plan.isRisen(ahead)) return n;
                // In a vat at rest nothing but the day goes on.
                if (!changes && !plan.rises.hasDay) return NONE;
            }
            return NONE;
        }

        int muchBehind(Plan plan, Vat now, int kind, int boilings, boolean withScum) {
            ahead.copy(now);
            for (int n = 0; n < boilings; n++) plan.boilInEarnest(ahead, withScum);
            return ahead.much[kind];
        }

        boolean wouldHold(Plan plan, Vat now, int who, int basin) {
            ahead.copy(now);
            plan.tell(ahead, who);
            return plan.lacking(ahead.much, basin) == 0;
        }

        int boilingsTill(Plan plan, Vat now, int basin) {
            ahead.copy(now);
            for (int n = 0; n <= FAR; n++) {
                if (plan.lacking(ahead.much, basin) == 0) return n;
                plan.boilInEarnest(ahead, false);
            }
            return NONE;
        }

        int boilingsToRest(Plan plan, Vat now) {
            ahead.copy(now);
            for (int n = 0; n <= FAR; n++) {
                if (!plan.boilRules(ahead.much)) return n;
            }
            return NONE;
        }

        int allUnderLaw(Plan plan, Vat now, int limit) {
            ahead.copy(now);
            for (int rule = 0; rule < plan.rules; rule++) plan.turn(ahead.much, rule, limit);
            return ahead.all();
        }

        /** Orders come by their numbers, so a like one never takes an earlier one's place. */
        int mostByOrder(Plan plan, Vat now, int kind, int[] best) {
            for (int i = 0; i < plan.rules; i++) inOrder[i] = i;
            int most = NONE;
            for (int orders = 0; orders < ALL_ORDERS; orders++) {
                int much = muchByOrder(plan, now, kind);
                if (much > most) {
                    most = much;
                    System.arraycopy(inOrder, 0, best, 0, plan.rules);
                }
                if (!toNextOrder(plan.rules)) return most;
            }
            return most;
        }

        private int muchByOrder(Plan plan, Vat now, int kind) {
            System.arraycopy(now.much, 0, trial, 0, MOST_KINDS);
            for (int i = 0; i < plan.rules; i++) plan.turn(trial, inOrder[i], plan.limit(inOrder[i]));
            return trial[kind];
        }

        private boolean toNextOrder(int count) {
            int left = count - 2;
            while (left >= 0 && inOrder[left] > inOrder[left + 1]) left--;
            if (left < 0) return false;
            int right = count - 1;
            while (right > left && inOrder[right] < inOrder[left]) right--;
            exchange(left, right);
            int low = left + 1;
            int high = count - 1;
            while (low < high) {
                exchange(low, high);
                low++;
                high--;
            }
            return true;
        }

        private void exchange(int one, int other) {
            int rule = inOrder[one];
            inOrder[one] = inOrder[other];
            inOrder[other] = rule;
        }

        /** As bits 2 * (the first one tells) + (the other one tells). */
        int duelRests(Plan plan, Vat now, int person, int other) {
            int risen = 0;
            for (int choice = 0; choice < 4; choice++) {
                int who = (choice >> 1) << person | (choice & 1) << other;
                if (riseIf(plan, now, who, 1) != NONE) risen |= 1 << choice;
            }
            int rests = 0;
            for (int choice = 0; choice < 4; choice++) {
                boolean firstStays = gain(risen, choice, 2, plan.burden(person))
                        >= gain(risen, choice ^ 2, 2, plan.burden(person));
                boolean otherStays = gain(risen, choice, 1, plan.burden(other))
                        >= gain(risen, choice ^ 1, 1, plan.burden(other));
                if (firstStays && otherStays) rests |= 1 << choice;
            }
            return rests;
        }

        private static int gain(int risen, int choice, int own, int burden) {
            if ((risen >> choice & 1) == 1) return LOSS;
            return (choice & own) == 0 ? 0 : burden;
        }
    }

    /** What is SEEN and when it was TOLD and UNTOLD, and how much the last one may have had by it. */
    private static final class Sightings {
        static final int LAST_BOILING = 12;
        private static final int MOST = 30;
        private static final int MOST_HAD = 30;

        int count;
        private final int[] boilings = new int[MOST];
        private final int[] kinds = new int[MOST];
        private final int[] least = new int[MOST];
        private final boolean[] was = new boolean[MOST];
        private final int[] toldAt = new int[MOST];
        private final int[] untoldAt = new int[MOST];
        private final int[] much = new int[MOST_KINDS];
        private final int[] courses = new int[(MOST_HAD + 1) * (LAST_BOILING + 1) * MOST_KINDS];
        private boolean hasCourses;

        void forget() {
            count = 0;
            hasCourses = false;
        }

        int add(int behind, int kind, int atLeast, boolean is, int time) {
            if (count >= MOST) return NONE;
            boilings[count] = behind;
            kinds[count] = kind;
            least[count] = atLeast;
            was[count] = is;
            toldAt[count] = time;
            untoldAt[count] = NONE;
            count++;
            return count - 1;
        }

        boolean takeBack(int number, int time) {
            if (number < 0 || number >= count || untoldAt[number] != NONE) return false;
            untoldAt[number] = time;
            return true;
        }

        /** How much he may have had by what is known at a time, as bits 0 to 30. */
        int fitting(Plan plan, int k) {
            if (plan.people == 0) return 0;
            followCourses(plan);
            int fitting = 0;
            for (int had = 0; had <= MOST_HAD; had++) {
                if (isBorneOut(had, k)) fitting |= 1 << had;
            }
            return fitting;
        }

        /** How many of the fitting ones are left at the most, once it is known how much there was. */
        int leftAtMost(int fitting, int behind, int kind) {
            int most = 0;
            for (int had = 0; had <= MOST_HAD; had++) {
                if ((fitting >> had & 1) == 1) most = Math.max(most, alike(fitting, behind, kind, had));
            }
            return most;
        }

        private int alike(int fitting, int behind, int kind, int had) {
            int there = courses[cell(had, behind) + kind];
            int alike = 0;
            for (int other = 0; other <= MOST_HAD; other++) {
                if ((fitting >> other & 1) == 1 && courses[cell(other, behind) + kind] == there) alike++;
            }
            return alike;
        }

        private boolean isBorneOut(int had, int k) {
            for (int i = 0; i < count; i++) {
                if (!counts(i, k)) continue;
                boolean there = courses[cell(had, boilings[i]) + kinds[i]] >= least[i];
                if (there != was[i]) return false;
            }
            return true;
        }

        private boolean counts(int number, int k) {
            if (toldAt[number] > k) return false;
            return untoldAt[number] == NONE || untoldAt[number] > k;
        }

        private static int cell(int had, int behind) {
            return (had * (LAST_BOILING + 1) + behind) * MOST_KINDS;
        }

        /** By the WORKS alone, so once for each is enough. */
        private void followCourses(Plan plan) {
            if (hasCourses) return;
            for (int had = 0; had <= MOST_HAD; had++) {
                tellAll(plan, had);
                System.arraycopy(much, 0, courses, cell(had, 0), MOST_KINDS);
                for (int n = 1; n <= LAST_BOILING; n++) {
                    plan.boilRules(much);
                    System.arraycopy(much, 0, courses, cell(had, n), MOST_KINDS);
                }
            }
            hasCourses = true;
        }

        private void tellAll(Plan plan, int had) {
            Arrays.fill(much, 0);
            for (int person = 0; person < plan.people; person++) plan.pour(much, person);
            much[plan.lastKind] += had - plan.has(plan.people - 1, plan.lastKind);
        }
    }
}
