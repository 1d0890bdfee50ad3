import java.util.NoSuchElementException;

/** Nets told in a language, the people who lie in them, and what can be asked of both. */
public final class HammockNet {
    public static final int NONE = -1;

    /** What some answers are for arguments that tell of nothing, where NONE has a meaning already. */
    private static final int NO_SUCH = -2;
    private static final int KNOTS = 8;
    private static final int PERSONS = 4;
    private static final int MOST_WILL = 40;
    private static final int MOST_HOURS = 60;
    private static final int SEEN_HOURS = 30;
    private static final int UNDOS = 16;
    private static final int MARKS = 4;
    /** Where one may be: at a KNOT, or UP. */
    private static final int PLACES = KNOTS + 1;
    private static final int MOST_ODD_HOURS = 6;

    private final Tape tape;
    private final Reader reader;
    private Net told;
    private Net spareNet;
    private Rest lines;
    private Rest spareLines;
    private final State now;
    private final State trial;
    private final State[] past;
    private int pastKept;
    private int pastNewest;
    private final Seen seen;
    private final State[] markedStates;
    private final Seen[] markedSeen;
    private final boolean[] marked;
    private final Ways ways;
    private final Search search;
    private final int[] path;
    private final int[] crowds;
    private long drawn;

    public HammockNet() {
        tape = new Tape();
        reader = new Reader(tape);
        told = new Net();
        spareNet = new Net();
        lines = new Rest();
        spareLines = new Rest();
        now = new State();
        trial = new State();
        past = new State[UNDOS];
        for (int i = 0; i < UNDOS; i++) {
            past[i] = new State();
        }
        seen = new Seen();
        markedStates = new State[MARKS];
        markedSeen = new Seen[MARKS];
        marked = new boolean[MARKS];
        for (int i = 0; i < MARKS; i++) {
            markedStates[i] = new State();
            markedSeen[i] = new Seen();
        }
        ways = new Ways();
        search = new Search();
        path = new int[SEEN_HOURS + 1];
        crowds = new int[(SEEN_HOURS + 1) * PLACES];
    }

    // ---- the tape, and what is told ----

    public int feed(long a, long b, long c) {
        tape.put(a);
        tape.put(b);
        tape.put(c);
        return tape.length;
    }

    public int net() {
        int fault = reader.readNet(spareNet);
        tape.empty();
        if (fault == 0) {
            Net old = told;
            told = spareNet;
            spareNet = old;
            beginAfternoon();
        }
        return fault;
    }

    private void beginAfternoon() {
        now.copy(told.start);
        lines.size = 0;
        seen.size = 0;
        pastKept = 0;
        for (int i = 0; i < MARKS; i++) {
            marked[i] = false;
        }
    }

    public int rest() {
        int fault = reader.readRest(told, spareLines);
        tape.empty();
        if (fault == 0) {
            Rest old = lines;
            lines = spareLines;
            spareLines = old;
        }
        return fault;
    }

    private boolean isKnot(int knot) {
        return knot >= 0 && knot < told.knots && knot < KNOTS;
    }

    private boolean isPerson(int person) {
        return person >= 0 && person < now.persons && person < PERSONS;
    }

    public int knot(int knot, int what) {
        if (!isKnot(knot)) {
            return NONE;
        }
        switch (what) {
            case 0:
                return told.kinds[knot];
            case 1:
                return told.holds[knot];
            case 2:
                return now.strings[knot];
            case 3:
                return told.against[knot];
            case 4:
                return now.lyingAt(knot);
            default:
                return NONE;
        }
    }

    public int person(int person, int what) {
        if (!isPerson(person)) {
            return NO_SUCH;
        }
        switch (what) {
            case 0:
                return now.wills[person];
            case 1:
                return now.places[person];
            case 2:
                return now.shifts[person];
            case 3:
                return now.waking(person);
            default:
                return NO_SUCH;
        }
    }

    // ---- what is done by hand, and undone ----

    private void remember() {
        pastNewest = (pastNewest + 1) % UNDOS;
        past[pastNewest].copy(now);
        pastKept = Math.min(UNDOS, pastKept + 1);
    }

    public int shift(int person, int knot) {
        if (!isPerson(person) || !isKnot(knot) || !now.canGo(person, knot)) {
            return NONE;
        }
        remember();
        now.go(told, person, knot);
        return now.wills[person];
    }

    public int hour() {
        remember();
        return now.passHour(told, NONE);
    }

    public int rouse(int person) {
        if (!isPerson(person) || !now.isLying(person)) {
            return NONE;
        }
        remember();
        int knot = now.places[person];
        now.places[person] = NONE;
        return knot;
    }

    public boolean lie(int person, int knot) {
        if (!isPerson(person) || !isKnot(knot) || now.isLying(person)) {
            return false;
        }
        remember();
        now.places[person] = knot;
        return true;
    }

    public int tie(int knot, int other) {
        if (!isKnot(knot) || !isKnot(other) || knot == other) {
            return NONE;
        }
        remember();
        now.strings[knot] ^= 1 << other;
        return now.strings[knot] >> other & 1;
    }

    public boolean undo() {
        if (pastKept < 1) {
            return false;
        }
        now.copy(past[pastNewest]);
        pastNewest = (pastNewest + UNDOS - 1) % UNDOS;
        pastKept--;
        return true;
    }

    // ---- what is judged ----

    public int judged(int what) {
        if (what < 0 || what > 2) {
            return NO_SUCH;
        }
        trial.copy(told.start);
        int refused = NONE;
        int fallen = NONE;
        for (int line = 0; line < lines.size && line < Rest.MOST; line++) {
            int outcome = outcomeOf(line);
            if (outcome == Rest.REFUSED && refused == NONE) {
                refused = line;
            }
            if (outcome == Rest.FALLEN && fallen == NONE) {
                fallen = line;
            }
        }
        if (what == 0) {
            return refused;
        }
        return what == 1 ? fallen : trial.countAsleep();
    }

    private int outcomeOf(int line) {
        Word act = lines.acts[line];
        int first = lines.firsts[line];
        int second = lines.seconds[line];
        if (act == Word.HOUR) {
            return trial.passHour(told, NONE) != 0 ? Rest.FALLEN : Rest.DONE;
        }
        if (act == Word.TIE) {
            trial.strings[first] ^= 1 << second;
            return Rest.DONE;
        }
        if (act == Word.SHIFT) {
            if (!trial.canGo(first, second)) {
                return Rest.REFUSED;
            }
            return trial.go(told, first, second) ? Rest.FALLEN : Rest.DONE;
        }
        if (trial.isLying(first) != (act == Word.ROUSE)) {
            return Rest.REFUSED;
        }
        trial.places[first] = act == Word.ROUSE ? NONE : second;
        return Rest.DONE;
    }

    // ---- hours going by ----

    public int later(int person, int hours) {
        if (!isPerson(person) || hours < 0 || hours > MOST_HOURS) {
            return NO_SUCH;
        }
        trial.copy(now);
        for (int hour = 0; hour < hours; hour++) {
            trial.passHour(told, NONE);
        }
        return trial.places[person];
    }

    public int falls(int person) {
        if (!isPerson(person) || !now.isLying(person)) {
            return NONE;
        }
        trial.copy(now);
        for (int hour = 1; hour <= MOST_HOURS; hour++) {
            trial.passHour(told, NONE);
            if (!trial.isLying(person)) {
                return hour;
            }
        }
        return NONE;
    }

    public int sleeps(int person) {
        if (!isPerson(person)) {
            return NONE;
        }
        trial.copy(now);
        for (int hour = 0; hour <= MOST_HOURS; hour++) {
            if (trial.isAsleep(person)) {
                return hour;
            }
            trial.passHour(told, NONE);
        }
        return NONE;
    }

    public int still() {
        trial.copy(now);
        for (int hour = 0; hour <= MOST_HOURS; hour++) {
            if (trial.awake() == 0) {
                return hour;
            }
            trial.passHour(told, NONE);
        }
        return NONE;
    }

    public int meet(int person, int other) {
        if (!isPerson(person) || !isPerson(other) || person == other) {
            return NONE;
        }
        trial.copy(now);
        for (int hour = 0; hour <= MOST_HOURS; hour++) {
            if (trial.isLying(person) && trial.places[person] == trial.places[other]) {
                return hour;
            }
            trial.passHour(told, NONE);
        }
        return NONE;
    }

    public int crowd() {
        int best = NONE;
        int most = 0;
        for (int knot = 0; knot < told.knots; knot++) {
            int here = Integer.bitCount(now.lyingAt(knot));
            if (here > most) {
                most = here;
                best = knot;
            }
        }
        return best;
    }

    // ---- strings ----

    public int reach(int knot) {
        return isKnot(knot) ? Ways.reachOf(now.strings, knot) : NONE;
    }

    public int far(int knot, int other) {
        return isKnot(knot) && isKnot(other) ? Ways.stringsBetween(now.strings, knot, other) : NONE;
    }

    public int walks(int knot, int other, int strings) {
        if (!isKnot(knot) || !isKnot(other) || strings < 0 || strings > Ways.MOST_STRINGS) {
            return NONE;
        }
        return ways.countWalks(now.strings, knot, other, strings);
    }

    public int rings() {
        int found = 0;
        for (int knot = 0; knot < told.knots; knot++) {
            found |= Ways.reachOf(now.strings, knot) & 1 << knot;
        }
        return found;
    }

    public int ends() {
        int found = 0;
        for (int knot = 0; knot < told.knots; knot++) {
            if (now.strings[knot] == 0) {
                found |= 1 << knot;
            }
        }
        return found;
    }

    public int trails() {
        return told.allKnots() & ~Ways.unionOf(now.strings, told.allKnots());
    }

    public int firms(int knot) {
        if (!isKnot(knot)) {
            return NONE;
        }
        int reached = Ways.reachOf(now.strings, knot);
        int together = 0;
        for (int each = 0; each < told.knots; each++) {
            if ((reached >> each & 1) != 0) {
                together += told.holds[each];
            }
        }
        return together;
    }

    // ---- the fewest shifts, and the fewest slips ----

    public int goal(int person, int knot) {
        return isPerson(person) && isKnot(knot) ? search.fewest(told, now, person, knot) : NONE;
    }

    public int doze(int person) {
        return isPerson(person) ? search.fewest(told, now, person, Search.ASLEEP) : NONE;
    }

    public int tiles(int person) {
        return isPerson(person) ? search.fewest(told, now, person, Search.FALLEN) : NONE;
    }

    public int held() {
        int slips = told.slips();
        for (int size = 0; size <= KNOTS; size++) {
            for (int set = 0; set < 1 << KNOTS; set++) {
                if ((set & ~slips) == 0 && Integer.bitCount(set) == size && keepsAll(set)) {
                    return set;
                }
            }
        }
        return slips;
    }

    private boolean keepsAll(int firmed) {
        trial.copy(now);
        trial.firmed = firmed;
        for (int hour = 0; hour < MOST_HOURS; hour++) {
            if (trial.awake() == 0) {
                return true;
            }
            if (trial.passHour(told, NONE) != 0) {
                return false;
            }
        }
        return true;
    }

    // ---- reasons against reasons ----

    public int stands() {
        int all = told.allKnots();
        int sets = 0;
        for (int set = 0; set <= all; set++) {
            if (Reasons.isStanding(told, set)) {
                sets++;
            }
        }
        return sets;
    }

    public int largest() {
        int all = told.allKnots();
        int best = 0;
        for (int set = 0; set <= all; set++) {
            if (Integer.bitCount(set) > Integer.bitCount(best) && Reasons.isStanding(told, set)) {
                best = set;
            }
        }
        return best;
    }

    public int whole() {
        int all = told.allKnots();
        int sets = 0;
        for (int set = 0; set <= all; set++) {
            boolean answersRest = (all & ~set & ~Reasons.answeredBy(told, set)) == 0;
            if (answersRest && Reasons.isStanding(told, set)) {
                sets++;
            }
        }
        return sets;
    }

    public int sure() {
        int set = 0;
        for (int round = 0; round < KNOTS; round++) {
            set |= Reasons.defendedBy(told, set);
        }
        return set;
    }

    public int opposed(int knot) {
        return isKnot(knot) ? Reasons.opposersOf(told, 1 << knot) : NONE;
    }

    public int defends(int knot) {
        return isKnot(knot) ? Reasons.opposersOf(told, Reasons.opposersOf(told, 1 << knot)) : NONE;
    }

    // ---- a tug ----

    public int tug(int knot, int what) {
        if (!isKnot(knot) || what < 0 || what > 1) {
            return NO_SUCH;
        }
        ways.judgeTugs(now.strings, told.knots);
        return what == 0 ? ways.outcomes[knot] : ways.pulls[knot];
    }

    public int pull(int knot) {
        if (!isKnot(knot)) {
            return NONE;
        }
        ways.judgeTugs(now.strings, told.knots);
        return ways.bestPull(now.strings[knot]);
    }

    // ---- whose will it was ----

    public boolean see(int from, int knot, int hours, boolean there) {
        if (!isKnot(from) || !isKnot(knot) || hours < 0 || hours > SEEN_HOURS) {
            return false;
        }
        return seen.add(from, knot, hours, there);
    }

    public int wills(int what) {
        if (what < 0 || what > 2) {
            return NONE;
        }
        int many = 0;
        int least = NONE;
        int greatest = NONE;
        for (int will = 1; will <= MOST_WILL; will++) {
            if (!isPossible(will)) {
                continue;
            }
            many++;
            least = least == NONE ? will : least;
            greatest = will;
        }
        if (what == 0) {
            return many;
        }
        return what == 1 ? least : greatest;
    }

    /** Leaves in path where one of this will would have been, hour by hour. */
    private boolean isPossible(int will) {
        if (seen.size == 0) {
            return true;
        }
        trial.copy(now);
        trial.leaveOne(will, seen.from);
        for (int hour = 0; hour <= SEEN_HOURS; hour++) {
            path[hour] = trial.places[0];
            trial.passHour(told, NONE);
        }
        return seen.agrees(path);
    }

    public int ask() {
        if (seen.size == 0) {
            return NONE;
        }
        for (int i = 0; i < crowds.length; i++) {
            crowds[i] = 0;
        }
        int all = 0;
        for (int will = 1; will <= MOST_WILL; will++) {
            if (isPossible(will)) {
                all++;
                joinCrowds();
            }
        }
        return hourThatParts(all);
    }

    /** Counts the one whose path is traced, hour by hour. */
    private void joinCrowds() {
        for (int hour = 0; hour <= SEEN_HOURS; hour++) {
            crowds[crowdAt(hour, path[hour])]++;
        }
    }

    private int hourThatParts(int all) {
        int fewest = all;
        int best = NONE;
        for (int hour = 0; hour <= SEEN_HOURS; hour++) {
            int together = largestCrowd(hour);
            if (together < fewest) {
                fewest = together;
                best = hour;
            }
        }
        return best;
    }

    /** Place NONE, UP, comes first in an hour's row. */
    private static int crowdAt(int hour, int place) {
        return hour * PLACES + place + 1;
    }

    private int largestCrowd(int hour) {
        int most = 0;
        for (int place = NONE; place < KNOTS; place++) {
            most = Math.max(most, crowds[crowdAt(hour, place)]);
        }
        return most;
    }

    // ---- odds, a lull, seasons ----

    public int chance(int person, int hours, int odds) {
        if (!isPerson(person) || !now.isLying(person)) {
            return NONE;
        }
        if (hours < 1 || hours > MOST_ODD_HOURS || odds < 0 || odds > 10) {
            return NONE;
        }
        int millionths = 0;
        for (int astray = 0; astray < 1 << hours; astray++) {
            int weight = weightOf(astray, hours, odds);
            if (weight > 0 && isUpBehind(person, hours, astray)) {
                millionths += weight;
            }
        }
        return millionths;
    }

    /** In millionths: six hours of tenths at most leave nothing to cut. */
    private static int weightOf(int astray, int hours, int odds) {
        int weight = 1;
        for (int hour = 0; hour < MOST_ODD_HOURS; hour++) {
            boolean strays = (astray >> hour & 1) != 0;
            int tenths = strays ? odds : 10 - odds;
            weight *= hour < hours ? tenths : 10;
        }
        return weight;
    }

    private boolean isUpBehind(int person, int hours, int astray) {
        trial.copy(now);
        for (int hour = 0; hour < hours; hour++) {
            boolean strays = (astray >> hour & 1) != 0;
            trial.passHour(told, strays ? person : NONE);
        }
        return !trial.isLying(person);
    }

    public int rests(int both, int loses, int gains, int what) throws NoSuchElementException {
        if (!isGain(both) || !isGain(loses) || !isGain(gains) || what < NONE) {
            throw new NoSuchElementException("no such lull");
        }
        int found = 0;
        for (int choices = 0; choices < 4; choices++) {
            if (!isRest(choices, both, loses, gains)) {
                continue;
            }
            if (found == what) {
                return choices;
            }
            found++;
        }
        if (what != NONE) {
            throw new NoSuchElementException("no such rest");
        }
        return found;
    }

    private static boolean isGain(int gain) {
        return gain >= 0 && gain <= 9;
    }

    private static boolean isRest(int choices, int both, int loses, int gains) {
        boolean first = choices >> 1 == 1;
        boolean other = (choices & 1) == 1;
        return gainOf(first, other, both, loses, gains) >= gainOf(!first, other, both, loses, gains)
                && gainOf(other, first, both, loses, gains) >= gainOf(!other, first, both, loses, gains);
    }

    private static int gainOf(boolean lies, boolean otherLies, int both, int loses, int gains) {
        if (lies) {
            return otherLies ? both : -loses;
        }
        return otherLies ? gains : 0;
    }

    public int seasons(int seed, int hours, int what) {
        if (seed < 0 || seed > 9999 || hours < 1 || hours > 99 || what < 0 || what > 2) {
            return NONE;
        }
        trial.copy(now);
        drawn = seed;
        int fallen = 0;
        for (int hour = 0; hour < hours; hour++) {
            if (fallsByDraws()) {
                fallen++;
            }
            fallen += Integer.bitCount(trial.passHour(told, NONE));
        }
        if (what == 0) {
            return fallen;
        }
        return what == 1 ? trial.lying() : trial.willOfAll();
    }

    private boolean fallsByDraws() {
        if (trial.persons == 0) {
            return false;
        }
        int person = draw(trial.persons);
        int knot = draw(told.knots);
        int act = draw(5);
        if (act == 0) {
            trial.places[person] = NONE;
        } else if (act == 1 && !trial.isLying(person)) {
            trial.places[person] = knot;
        } else if ((act == 2 || act == 3) && trial.canGo(person, knot)) {
            return trial.go(told, person, knot);
        }
        return false;
    }

    private int draw(int below) {
        drawn = (drawn * 1103515245L + 12345L) % 2147483648L;
        return below < 1 ? 0 : (int) (drawn / 65536L % below);
    }

    // ---- marks and counts ----

    public boolean mark(int mark, boolean back) {
        if (mark < 0 || mark >= MARKS || (back && !marked[mark])) {
            return false;
        }
        if (back) {
            now.copy(markedStates[mark]);
            seen.copy(markedSeen[mark]);
            pastKept = 0;
        } else {
            markedStates[mark].copy(now);
            markedSeen[mark].copy(seen);
            marked[mark] = true;
        }
        return true;
    }

    public int count(int what) {
        switch (what) {
            case 0:
                return told.knots;
            case 1:
                return Ways.countAll(now.strings);
            case 2:
                return now.persons;
            case 3:
                return now.hoursGone;
            case 4:
                return now.lying();
            case 5:
                return now.awake();
            case 6:
                return now.willOfAll();
            case 7:
                return lines.size;
            case 8:
                return seen.size;
            case 9:
                return pastKept;
            case 10:
                return tape.length;
            default:
                return NONE;
        }
    }

    // ---- the classes inside ----

    /** The words that the language knows; NAME stands for every other one, NOTHING for no word. */
    private enum Word {
        NOTHING("", true, NONE),
        NAME("", false, NONE),
        KNOT("knot", true, NONE),
        HOLDS("holds", true, NONE),
        STRING("string", true, NONE),
        AGAINST("against", true, NONE),
        PERSON("person", true, NONE),
        WILL("will", true, NONE),
        AT("at", true, NONE),
        LULLS("lulls", true, NONE),
        HOUR("hour", true, NONE),
        SHIFT("shift", true, NONE),
        ROUSE("rouse", true, NONE),
        LIE("lie", true, NONE),
        TIE("tie", true, NONE),
        PLAIN("plain", true, Net.PLAIN),
        FIRM("firm", true, Net.FIRM),
        SLIP("slip", true, Net.SLIP),
        DENT("dent", true, Net.DENT),
        NOT("not", true, Lulls.NOT),
        AND("and", true, Lulls.AND),
        OR("or", true, Lulls.OR),
        HOLD("hold", false, Lulls.HOLD),
        MIND("mind", false, Lulls.MIND),
        MANY("many", false, Lulls.MANY),
        OTHERS("others", false, Lulls.OTHERS);

        final boolean reserved;
        /** The KIND's number, or what stands for the word in the code of lulls. */
        final int number;
        /** Its letters as the digits of one number, so that no text need be made to compare. */
        final long letters;

        Word(String text, boolean reserved, int number) {
            this.reserved = reserved;
            this.number = number;
            long sum = 0;
            for (int i = 0; i < text.length(); i++) {
                sum = sum * 27 + (text.charAt(i) - 'a' + 1);
            }
            letters = sum;
        }
    }

    /** What has been fed, and the tokens in it, one behind the other. */
    private static final class Tape {
        static final int MOST = 1000;
        static final int END = 0;
        static final int WORD = 1;
        static final int NUMBER = 2;
        static final int SIGN = 3;
        static final int NO_TOKEN = 4;
        private static final int MOST_LETTERS = 8;
        private static final int MOST_DIGITS = 4;
        private static final Word[] WORDS = Word.values();

        private final char[] signs = new char[MOST];
        int length;
        /** Of the token: where it begins, where the next sign is, which token it is. */
        int place;
        private int behind;
        int token;
        Word word = Word.NOTHING;
        long letters;
        int number;
        private char sign;

        void put(long bytes) {
            for (int shift = 56; shift >= 0; shift -= 8) {
                char each = (char) (bytes >>> shift & 255);
                boolean fits = each == 10 || each >= 32 && each <= 126;
                if (fits && length < MOST) {
                    signs[length] = each;
                    length++;
                }
            }
        }

        void empty() {
            length = 0;
        }

        void begin() {
            behind = 0;
            advance();
        }

        void advance() {
            word = Word.NOTHING;
            int at = behind;
            while (at < length && (signs[at] == ' ' || signs[at] == 10)) {
                at++;
            }
            place = at;
            behind = at;
            if (at >= length) {
                token = END;
                return;
            }
            char first = signs[at];
            if (first >= 'a' && first <= 'z') {
                readWord();
            } else if (first >= '0' && first <= '9') {
                readNumber();
            } else {
                readSign(first);
            }
        }

        private void readWord() {
            letters = 0;
            while (behind < length && signs[behind] >= 'a' && signs[behind] <= 'z') {
                letters = letters * 27 + (signs[behind] - 'a' + 1);
                behind++;
            }
            if (behind - place > MOST_LETTERS) {
                token = NO_TOKEN;
                return;
            }
            token = WORD;
            word = Word.NAME;
            for (Word each : WORDS) {
                if (each.letters == letters) {
                    word = each;
                }
            }
        }

        private void readNumber() {
            number = 0;
            while (behind < length && signs[behind] >= '0' && signs[behind] <= '9') {
                number = number * 10 + (signs[behind] - '0');
                behind++;
            }
            token = behind - place > MOST_DIGITS ? NO_TOKEN : NUMBER;
        }

        private void readSign(char each) {
            sign = each;
            behind = place + 1;
            boolean known = each == '(' || each == ')' || each == '<' || each == '='
                    || each == '+' || each == '-' || each == '*' || each == ';';
            token = known ? SIGN : NO_TOKEN;
        }

        boolean isSign(char due) {
            return token == SIGN && sign == due;
        }

        boolean isName() {
            return token == WORD && !word.reserved;
        }
    }

    /** The law of how one is lulled: an E, kept as code for a stack. */
    private static final class Lulls {
        /** A code below stands for the NUMBER that it is. */
        static final int HOLD = 10000;
        static final int MIND = 10001;
        static final int MANY = 10002;
        static final int OTHERS = 10003;
        static final int NOT = 10004;
        static final int AND = 10005;
        static final int OR = 10006;
        private static final int LESS = 10007;
        private static final int SAME = 10008;
        private static final int PLUS = 10009;
        private static final int MINUS = 10010;
        private static final int TIMES = 10011;
        private static final int OPEN = 10012;
        private static final int COMPARING = 2;
        private static final int DEEPEST = 5;
        /** Each of the levels within not and ( ) waits with four operators at most. */
        private static final int ROOM = 64;

        private final int[] code = new int[Tape.MOST];
        private int size;
        private final int[] waiting = new int[ROOM];
        private int waits;
        private int within;
        private int open;
        private final int[] stack = new int[ROOM];
        private final int[] facts = new int[4];

        void beOne() {
            size = 0;
            emit(1);
        }

        /** Reads an E up to the sign ; behind it; answers the kind of the FAULT, 0 without one. */
        int read(Tape tape) {
            size = 0;
            waits = 0;
            within = 0;
            open = 0;
            boolean partIsDue = true;
            for (int i = 0; i <= Tape.MOST; i++) {
                if (partIsDue) {
                    int part = partOf(tape);
                    if (part == NONE) {
                        return Reader.NOT_HERE;
                    }
                    if (within >= DEEPEST) {
                        return Reader.TOO_MANY;
                    }
                    partIsDue = takePart(part);
                } else if (open == 0 && tape.isSign(';')) {
                    settle(1);
                    return 0;
                } else if (tape.isSign(')')) {
                    if (open == 0) {
                        return Reader.NOT_HERE;
                    }
                    closeBracket();
                } else {
                    if (!takeOperator(operatorOf(tape))) {
                        return Reader.NOT_HERE;
                    }
                    partIsDue = true;
                }
                tape.advance();
            }
            return Reader.NOT_HERE;
        }

        private static int partOf(Tape tape) {
            if (tape.token == Tape.NUMBER) {
                return tape.number;
            }
            if (tape.isSign('(')) {
                return OPEN;
            }
            int code = tape.word.number;
            return code >= HOLD && code <= NOT ? code : NONE;
        }

        private static int operatorOf(Tape tape) {
            if (tape.word == Word.AND || tape.word == Word.OR) {
                return tape.word.number;
            }
            if (tape.isSign('<')) {
                return LESS;
            }
            if (tape.isSign('=')) {
                return SAME;
            }
            if (tape.isSign('+')) {
                return PLUS;
            }
            if (tape.isSign('-')) {
                return MINUS;
            }
            return tape.isSign('*') ? TIMES : NONE;
        }

        private static int rankOf(int operator) {
            switch (operator) {
                case AND:
                case OR:
                    return 1;
                case LESS:
                case SAME:
                    return COMPARING;
                case PLUS:
                case MINUS:
                    return 3;
                case TIMES:
                    return 4;
                default:
                    return 0;
            }
        }

        /** Answers whether a PART is due still. */
        private boolean takePart(int part) {
            if (part == NOT || part == OPEN) {
                within++;
                open += part == OPEN ? 1 : 0;
                await(part);
                return true;
            }
            emit(part);
            settleNots();
            return false;
        }

        private boolean takeOperator(int operator) {
            if (operator == NONE) {
                return false;
            }
            int rank = rankOf(operator);
            settle(rank == COMPARING ? rank + 1 : rank);
            boolean comparesTwice = rank == COMPARING && waits > 0 && rankOf(waiting[waits - 1]) == COMPARING;
            await(operator);
            return !comparesTwice;
        }

        private void closeBracket() {
            settle(1);
            if (waits > 0) {
                waits--;
            }
            open--;
            within--;
            settleNots();
        }

        /** Emits what waits and binds at least so close, down to the innermost bracket. */
        private void settle(int rank) {
            for (int i = waits - 1; i >= 0 && rankOf(waiting[i]) >= rank; i--) {
                emit(waiting[i]);
                waits = i;
            }
        }

        private void settleNots() {
            for (int i = waits - 1; i >= 0 && waiting[i] == NOT; i--) {
                emit(NOT);
                waits = i;
                within--;
            }
        }

        private void await(int operator) {
            if (waits < ROOM) {
                waiting[waits] = operator;
                waits++;
            }
        }

        private void emit(int each) {
            if (size < Tape.MOST) {
                code[size] = each;
                size++;
            }
        }

        int value(int hold, int mind, int many, int others) {
            facts[0] = hold;
            facts[1] = mind;
            facts[2] = many;
            facts[3] = others;
            int top = -1;
            for (int i = 0; i < size; i++) {
                int each = code[i];
                if (each < NOT) {
                    top = Math.min(top + 1, ROOM - 1);
                    stack[top] = each < HOLD ? each : facts[each - HOLD];
                } else if (each == NOT && top >= 0) {
                    stack[top] = stack[top] == 0 ? 1 : 0;
                } else if (top >= 1) {
                    top--;
                    stack[top] = joined(each, stack[top], stack[top + 1]);
                }
            }
            return top >= 0 ? stack[top] : 1;
        }

        private static int joined(int operator, int left, int right) {
            switch (operator) {
                case AND:
                    return left != 0 && right != 0 ? 1 : 0;
                case OR:
                    return left != 0 || right != 0 ? 1 : 0;
                case LESS:
                    return left < right ? 1 : 0;
                case SAME:
                    return left == right ? 1 : 0;
                case PLUS:
                    return left + right;
                case MINUS:
                    return left - right;
                default:
                    return left * right;
            }
        }
    }

    /** A NET as it is told: its KNOTS, what is against what, its law, and how its PERSONS begin. */
    private static final class Net {
        static final int PLAIN = 0;
        static final int FIRM = 1;
        static final int SLIP = 2;
        static final int DENT = 3;
        private static final int MOST_LULL = 9;

        int knots;
        final long[] knotNames = new long[KNOTS];
        final int[] kinds = new int[KNOTS];
        final int[] holds = new int[KNOTS];
        final int[] against = new int[KNOTS];
        final long[] personNames = new long[PERSONS];
        boolean lullsTold;
        final Lulls lulls = new Lulls();
        final State start = new State();

        void clear() {
            knots = 0;
            lullsTold = false;
            lulls.beOne();
            start.clear();
            for (int knot = 0; knot < KNOTS; knot++) {
                against[knot] = 0;
            }
        }

        void addKnot(long name, int kind, int holding) {
            if (knots < KNOTS) {
                knotNames[knots] = name;
                kinds[knots] = kind;
                holds[knots] = holding;
                knots++;
            }
        }

        void addPerson(long name, int will, int knot) {
            int person = start.persons;
            if (person < PERSONS) {
                personNames[person] = name;
                start.wills[person] = will;
                start.places[person] = knot;
                start.persons++;
            }
        }

        int knotNamed(long name) {
            for (int knot = 0; knot < knots; knot++) {
                if (knotNames[knot] == name) {
                    return knot;
                }
            }
            return NONE;
        }

        int personNamed(long name) {
            for (int person = 0; person < start.persons; person++) {
                if (personNames[person] == name) {
                    return person;
                }
            }
            return NONE;
        }

        int allKnots() {
            return (1 << knots) - 1;
        }

        int slips() {
            int found = 0;
            for (int knot = 0; knot < knots; knot++) {
                if (kinds[knot] == SLIP) {
                    found |= 1 << knot;
                }
            }
            return found;
        }

        private int kindOf(int knot, int firmed) {
            return (firmed >> knot & 1) != 0 ? FIRM : kinds[knot];
        }

        /** The will with which one comes to a KNOT. */
        int willAt(int knot, int will, int many, int others, int firmed) {
            int lull = lulls.value(holds[knot], will, many, others);
            lull = Math.max(0, Math.min(MOST_LULL, lull));
            int kind = kindOf(knot, firmed);
            int left = will - (kind == DENT ? 2 * lull : lull);
            return Math.max(kind == FIRM ? 1 : 0, left);
        }

        boolean letsThrough(int knot, int will, int firmed) {
            return kindOf(knot, firmed) == SLIP && holds[knot] < will;
        }

        /** Of a set, the KNOT that holds the most, or the least, the first of equal ones. */
        int pick(int set, boolean least) {
            int best = NONE;
            for (int knot = 0; knot < knots; knot++) {
                if ((set >> knot & 1) == 0) {
                    continue;
                }
                if (best == NONE || (least ? holds[knot] < holds[best] : holds[knot] > holds[best])) {
                    best = knot;
                }
            }
            return best;
        }
    }

    /** The lines of a REST, names read as numbers. */
    private static final class Rest {
        static final int MOST = 40;
        static final int DONE = 0;
        static final int REFUSED = 1;
        static final int FALLEN = 2;

        final Word[] acts = new Word[MOST];
        final int[] firsts = new int[MOST];
        final int[] seconds = new int[MOST];
        int size;

        void add(Word act, int first, int second) {
            if (size < MOST) {
                acts[size] = act;
                firsts[size] = first;
                seconds[size] = second;
                size++;
            }
        }
    }

    /** Reads a TAPE as a NET or as a REST. Behind the first FAULT its steps do nothing any more. */
    private static final class Reader {
        static final int NOT_HERE = 1;
        static final int UNKNOWN = 2;
        static final int TOLD = 3;
        static final int OUT_OF_RANGE = 4;
        static final int TOO_MANY = 5;
        private static final int MOST_STRINGS = 16;
        private static final int MOST_AGAINST = 12;
        private static final int MOST_HOLD = 20;

        private final Tape tape;
        private int fault;

        Reader(Tape tape) {
            this.tape = tape;
        }

        private void fail(int kind) {
            if (fault == 0) {
                fault = kind + 16 * tape.place;
            }
        }

        int readNet(Net net) {
            net.clear();
            fault = 0;
            tape.begin();
            for (int i = 0; i <= Tape.MOST && fault == 0 && tape.token != Tape.END; i++) {
                if (tape.word == Word.KNOT) {
                    readKnot(net);
                } else if (tape.word == Word.STRING) {
                    readPair(net, net.start.strings, MOST_STRINGS);
                } else if (tape.word == Word.AGAINST) {
                    readPair(net, net.against, MOST_AGAINST);
                } else if (tape.word == Word.PERSON) {
                    readPerson(net);
                } else if (tape.word == Word.LULLS) {
                    readLulls(net);
                } else {
                    fail(NOT_HERE);
                }
            }
            return fault;
        }

        private void readKnot(Net net) {
            takeUnless(net.knots >= KNOTS, TOO_MANY);
            long name = takeNewName(net);
            int kind = takeKind();
            takeWord(Word.HOLDS);
            int holds = takeNumber(MOST_HOLD);
            takeEnd();
            if (fault == 0) {
                net.addKnot(name, kind, holds);
            }
        }

        private void readPair(Net net, int[] pairs, int most) {
            takeUnless(Ways.countAll(pairs) >= most, TOO_MANY);
            int first = takeKnot(net);
            int told = first == NONE ? 0 : pairs[first];
            int second = takeOther(net, first, told);
            takeEnd();
            if (fault == 0 && first != NONE) {
                pairs[first] |= 1 << second;
            }
        }

        private void readPerson(Net net) {
            takeUnless(net.start.persons >= PERSONS, TOO_MANY);
            long name = takeNewName(net);
            takeWord(Word.WILL);
            int will = takeNumber(MOST_WILL);
            takeWord(Word.AT);
            int knot = takeKnot(net);
            takeEnd();
            if (fault == 0) {
                net.addPerson(name, will, knot);
            }
        }

        private void readLulls(Net net) {
            takeUnless(net.lullsTold, TOLD);
            if (fault != 0) {
                return;
            }
            int kind = net.lulls.read(tape);
            if (kind != 0) {
                fail(kind);
            }
            takeEnd();
            net.lullsTold = true;
        }

        int readRest(Net net, Rest rest) {
            rest.size = 0;
            fault = 0;
            tape.begin();
            for (int i = 0; i <= Rest.MOST && fault == 0 && tape.token != Tape.END; i++) {
                readLine(net, rest);
            }
            return fault;
        }

        private void readLine(Net net, Rest rest) {
            Word act = tape.word;
            boolean byPerson = act == Word.SHIFT || act == Word.ROUSE || act == Word.LIE;
            if (!byPerson && act != Word.HOUR && act != Word.TIE) {
                fail(NOT_HERE);
                return;
            }
            takeUnless(rest.size >= Rest.MOST, TOO_MANY);
            int first = NONE;
            int second = NONE;
            if (byPerson) {
                first = takePerson(net);
            }
            if (act == Word.SHIFT || act == Word.LIE) {
                second = takeKnot(net);
            }
            if (act == Word.TIE) {
                first = takeKnot(net);
                second = takeOther(net, first, 0);
            }
            takeEnd();
            if (fault == 0) {
                rest.add(act, first, second);
            }
        }

        private void takeUnless(boolean wrong, int kind) {
            if (wrong) {
                fail(kind);
            } else {
                tape.advance();
            }
        }

        private void takeWord(Word due) {
            if (fault == 0) {
                takeUnless(tape.word != due, NOT_HERE);
            }
        }

        private void takeEnd() {
            if (fault == 0) {
                takeUnless(!tape.isSign(';'), NOT_HERE);
            }
        }

        private int takeKind() {
            int kind = tape.word.number;
            if (fault == 0) {
                takeUnless(kind < Net.PLAIN || kind > Net.DENT, NOT_HERE);
            }
            return kind;
        }

        private int takeNumber(int most) {
            int number = tape.number;
            if (fault != 0) {
                return NONE;
            }
            if (tape.token != Tape.NUMBER) {
                fail(NOT_HERE);
            } else {
                takeUnless(number > most, OUT_OF_RANGE);
            }
            return number;
        }

        /** Answers whether reading may go on from a NAME here. */
        private boolean isAtName() {
            if (fault == 0 && !tape.isName()) {
                fail(NOT_HERE);
            }
            return fault == 0;
        }

        private long takeNewName(Net net) {
            if (!isAtName()) {
                return NONE;
            }
            long name = tape.letters;
            takeUnless(net.knotNamed(name) != NONE || net.personNamed(name) != NONE, TOLD);
            return name;
        }

        private int takeKnot(Net net) {
            if (!isAtName()) {
                return NONE;
            }
            int knot = net.knotNamed(tape.letters);
            takeUnless(knot == NONE, UNKNOWN);
            return knot;
        }

        private int takePerson(Net net) {
            if (!isAtName()) {
                return NONE;
            }
            int person = net.personNamed(tape.letters);
            takeUnless(person == NONE, UNKNOWN);
            return person;
        }

        /** The second KNOT of a pair: not the first one, nor one that is told with it. */
        private int takeOther(Net net, int first, int told) {
            if (!isAtName()) {
                return NONE;
            }
            int knot = net.knotNamed(tape.letters);
            if (knot == NONE) {
                fail(UNKNOWN);
            } else {
                takeUnless(knot == first || (told >> knot & 1) != 0, TOLD);
            }
            return knot;
        }
    }

    /** How the strings are, who is where, and with what will. */
    private static final class State {
        final int[] strings = new int[KNOTS];
        final int[] wills = new int[PERSONS];
        final int[] places = new int[PERSONS];
        final int[] shifts = new int[PERSONS];
        int persons;
        int hoursGone;
        /** Slips that are taken for firm KNOTS. */
        int firmed;

        void clear() {
            persons = 0;
            hoursGone = 0;
            firmed = 0;
            for (int knot = 0; knot < KNOTS; knot++) {
                strings[knot] = 0;
            }
            for (int person = 0; person < PERSONS; person++) {
                wills[person] = 0;
                places[person] = NONE;
                shifts[person] = 0;
            }
        }

        void copy(State from) {
            persons = from.persons;
            hoursGone = from.hoursGone;
            firmed = from.firmed;
            System.arraycopy(from.strings, 0, strings, 0, KNOTS);
            System.arraycopy(from.wills, 0, wills, 0, PERSONS);
            System.arraycopy(from.places, 0, places, 0, PERSONS);
            System.arraycopy(from.shifts, 0, shifts, 0, PERSONS);
        }

        void leaveOne(int will, int knot) {
            persons = 1;
            wills[0] = will;
            places[0] = knot;
            shifts[0] = 0;
        }

        boolean isLying(int person) {
            return places[person] != NONE;
        }

        boolean isAwake(int person) {
            return isLying(person) && wills[person] > 0;
        }

        boolean isAsleep(int person) {
            return isLying(person) && wills[person] == 0;
        }

        /** 0 UP, 1 asleep, 2 awake. */
        int waking(int person) {
            if (!isLying(person)) {
                return 0;
            }
            return isAwake(person) ? 2 : 1;
        }

        boolean canGo(int person, int knot) {
            return isAwake(person) && (strings[places[person]] >> knot & 1) != 0;
        }

        /** SHIFTS one who can; answers whether they fall through. */
        boolean go(Net net, int person, int knot) {
            int others = Integer.bitCount(lyingAt(knot));
            int will = net.willAt(knot, wills[person], shifts[person], others, firmed);
            wills[person] = will;
            shifts[person]++;
            boolean falls = net.letsThrough(knot, will, firmed);
            places[person] = falls ? NONE : knot;
            return falls;
        }

        /** Answers who falls through, as bits. One may go astray: to the KNOT that holds the least. */
        int passHour(Net net, int astray) {
            int fallen = 0;
            for (int person = 0; person < persons; person++) {
                if (!isAwake(person)) {
                    continue;
                }
                int knot = net.pick(strings[places[person]], person == astray);
                if (knot != NONE && go(net, person, knot)) {
                    fallen |= 1 << person;
                }
            }
            hoursGone++;
            return fallen;
        }

        int lyingAt(int knot) {
            int found = 0;
            for (int person = 0; person < persons; person++) {
                if (places[person] == knot) {
                    found |= 1 << person;
                }
            }
            return found;
        }

        int lying() {
            return (1 << persons) - 1 & ~lyingAt(NONE);
        }

        int awake() {
            int found = 0;
            for (int person = 0; person < persons; person++) {
                if (isAwake(person)) {
                    found |= 1 << person;
                }
            }
            return found;
        }

        int countAsleep() {
            return Integer.bitCount(lying() & ~awake());
        }

        int willOfAll() {
            int together = 0;
            for (int person = 0; person < persons; person++) {
                together += wills[person];
            }
            return together;
        }
    }

    /** What is SEEN of an unknown PERSON. */
    private static final class Seen {
        private static final int MOST = 8;

        int from;
        int size;
        private final int[] knots = new int[MOST];
        private final int[] hours = new int[MOST];
        private final boolean[] theres = new boolean[MOST];

        void copy(Seen other) {
            from = other.from;
            size = other.size;
            for (int i = 0; i < MOST; i++) {
                knots[i] = other.knots[i];
                hours[i] = other.hours[i];
                theres[i] = other.theres[i];
            }
        }

        boolean add(int start, int knot, int hour, boolean there) {
            if (start != from) {
                size = 0;
            }
            if (size >= MOST) {
                return false;
            }
            from = start;
            knots[size] = knot;
            hours[size] = hour;
            theres[size] = there;
            size++;
            return true;
        }

        /** Whether one who was at these places, hour by hour, can be the one that was SEEN. */
        boolean agrees(int[] path) {
            for (int i = 0; i < size; i++) {
                int hour = hours[i];
                if (hour < path.length && (path[hour] == knots[i]) != theres[i]) {
                    return false;
                }
            }
            return true;
        }
    }

    /** What is asked of strings, kept as a set of KNOTS for each KNOT. */
    private static final class Ways {
        static final int MOST_STRINGS = 9;
        private static final int OTHER_WINS = 0;
        private static final int FIRST_WINS = 1;
        private static final int NEVER_ENDS = 2;

        final int[] outcomes = new int[KNOTS];
        final int[] pulls = new int[KNOTS];
        private final int[] walks = new int[KNOTS];
        private final int[] longer = new int[KNOTS];

        /** The KNOTS to which strings lead from some of a set. */
        static int unionOf(int[] strings, int set) {
            int union = 0;
            for (int knot = 0; knot < KNOTS; knot++) {
                if ((set >> knot & 1) != 0) {
                    union |= strings[knot];
                }
            }
            return union;
        }

        static int countAll(int[] strings) {
            int sum = 0;
            for (int knot = 0; knot < KNOTS; knot++) {
                sum += Integer.bitCount(strings[knot]);
            }
            return sum;
        }

        static int reachOf(int[] strings, int knot) {
            int reached = strings[knot];
            for (int round = 0; round < KNOTS; round++) {
                reached |= unionOf(strings, reached);
            }
            return reached;
        }

        static int stringsBetween(int[] strings, int knot, int other) {
            int reached = 1 << knot;
            for (int far = 0; far < KNOTS; far++) {
                if ((reached >> other & 1) != 0) {
                    return far;
                }
                reached |= unionOf(strings, reached);
            }
            return NONE;
        }

        int countWalks(int[] strings, int knot, int other, int length) {
            for (int each = 0; each < KNOTS; each++) {
                walks[each] = each == knot ? 1 : 0;
            }
            for (int i = 0; i < length; i++) {
                for (int each = 0; each < KNOTS; each++) {
                    longer[each] = walksTo(strings, each);
                }
                System.arraycopy(longer, 0, walks, 0, KNOTS);
            }
            return walks[other];
        }

        private int walksTo(int[] strings, int knot) {
            int sum = 0;
            for (int each = 0; each < KNOTS; each++) {
                if ((strings[each] >> knot & 1) != 0) {
                    sum += walks[each];
                }
            }
            return sum;
        }

        /** A round settles the KNOTS from which a TUG is over in just so many pulls. */
        void judgeTugs(int[] strings, int knots) {
            for (int knot = 0; knot < KNOTS; knot++) {
                outcomes[knot] = NEVER_ENDS;
                pulls[knot] = NONE;
            }
            for (int round = 0; round <= KNOTS; round++) {
                int outcome = round % 2 == 0 ? OTHER_WINS : FIRST_WINS;
                for (int knot = 0; knot < knots; knot++) {
                    if (outcomes[knot] == NEVER_ENDS && isSettled(strings[knot], outcome)) {
                        outcomes[knot] = outcome;
                        pulls[knot] = round;
                    }
                }
            }
        }

        private boolean isSettled(int next, int outcome) {
            int lost = knotsWith(OTHER_WINS);
            int won = knotsWith(FIRST_WINS);
            return outcome == FIRST_WINS ? (next & lost) != 0 : (next & ~won) == 0;
        }

        private int knotsWith(int outcome) {
            int found = 0;
            for (int knot = 0; knot < KNOTS; knot++) {
                if (outcomes[knot] == outcome) {
                    found |= 1 << knot;
                }
            }
            return found;
        }

        int bestPull(int next) {
            int best = NONE;
            for (int knot = 0; knot < KNOTS; knot++) {
                boolean leads = (next >> knot & 1) != 0;
                if (leads && (best == NONE || worthOf(knot) > worthOf(best))) {
                    best = knot;
                }
            }
            return best;
        }

        /** What a KNOT is worth to the one who pulls there: a win soon, no end, a loss late. */
        private int worthOf(int knot) {
            switch (outcomes[knot]) {
                case OTHER_WINS:
                    return 4 * KNOTS - pulls[knot];
                case NEVER_ENDS:
                    return 2 * KNOTS;
                default:
                    return pulls[knot];
            }
        }
    }

    /** What is asked of KNOTS as reasons against reasons; sets are bits. */
    private static final class Reasons {
        /** The KNOTS against which one of a set is. */
        static int answeredBy(Net net, int set) {
            return Ways.unionOf(net.against, set);
        }

        /** The KNOTS that are against one of a set. */
        static int opposersOf(Net net, int set) {
            int found = 0;
            for (int knot = 0; knot < net.knots; knot++) {
                if ((net.against[knot] & set) != 0) {
                    found |= 1 << knot;
                }
            }
            return found;
        }

        static boolean isStanding(Net net, int set) {
            int answered = answeredBy(net, set);
            return (answered & set) == 0 && (opposersOf(net, set) & ~answered) == 0;
        }

        /** The KNOTS all of whose opposers a set answers. */
        static int defendedBy(Net net, int set) {
            int answered = answeredBy(net, set);
            int found = 0;
            for (int knot = 0; knot < net.knots; knot++) {
                if ((opposersOf(net, 1 << knot) & ~answered) == 0) {
                    found |= 1 << knot;
                }
            }
            return found;
        }
    }

    /** The fewest SHIFTS to an aim, step by step; for each KNOT the wills with which one can lie there. */
    private static final class Search {
        /** Aims beside the KNOTS. */
        static final int ASLEEP = KNOTS;
        static final int FALLEN = KNOTS + 1;
        private static final int MOST_SHIFTS = 30;

        private final long[] wills = new long[KNOTS];
        private final long[] next = new long[KNOTS];
        private boolean someoneFell;

        int fewest(Net net, State state, int person, int aim) {
            if (!state.isAwake(person)) {
                return NONE;
            }
            int place = state.places[person];
            for (int knot = 0; knot < KNOTS; knot++) {
                wills[knot] = knot == place ? 1L << state.wills[person] : 0;
            }
            someoneFell = false;
            for (int shifts = 0; shifts <= MOST_SHIFTS; shifts++) {
                if (isReached(aim)) {
                    return shifts;
                }
                step(net, state.strings, state.shifts[person] + shifts);
            }
            return NONE;
        }

        private boolean isReached(int aim) {
            if (aim == FALLEN) {
                return someoneFell;
            }
            long asleep = 0;
            for (int knot = 0; knot < KNOTS; knot++) {
                if (knot == aim && wills[knot] != 0) {
                    return true;
                }
                asleep |= wills[knot] & 1;
            }
            return aim == ASLEEP && asleep != 0;
        }

        private void step(Net net, int[] strings, int many) {
            for (int knot = 0; knot < net.knots; knot++) {
                long coming = 0;
                for (int from = 0; from < KNOTS; from++) {
                    if ((strings[from] >> knot & 1) != 0) {
                        coming |= wills[from];
                    }
                }
                next[knot] = arrive(net, knot, coming, many);
            }
            System.arraycopy(next, 0, wills, 0, net.knots);
        }

        /** Who is asleep, with a will of 0, comes no further. */
        private long arrive(Net net, int knot, long coming, int many) {
            long arrived = 0;
            for (int will = 1; will <= MOST_WILL && coming >> will != 0; will++) {
                if ((coming >> will & 1) == 0) {
                    continue;
                }
                int left = net.willAt(knot, will, many, 0, 0);
                if (net.letsThrough(knot, left, 0)) {
                    someoneFell = true;
                } else {
                    arrived |= 1L << left;
                }
            }
            return arrived;
        }
    }
}
