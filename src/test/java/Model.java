import java.util.ArrayDeque;
import java.util.ArrayList;
import java.util.Arrays;
import java.util.Deque;
import java.util.HashSet;
import java.util.List;
import java.util.NoSuchElementException;
import java.util.Set;

/**
 * The document once more, in its plainest form and without a care for speed: the same calls as HammockNet, to hold the
 * two against each other. It shares no code with it.
 */
public final class Model {
    private final StringBuilder tape = new StringBuilder();
    private Told told = new Told();
    private List<String[]> rest = new ArrayList<>();
    private Afternoon now = new Afternoon(told);
    private Deque<Afternoon> past = new ArrayDeque<>();
    private List<int[]> seen = new ArrayList<>();
    private final Afternoon[] markedAfternoons = new Afternoon[4];
    private final List<List<int[]>> markedSeen = new ArrayList<>(Arrays.asList(null, null, null, null));

    /** What a net tells that no call changes. */
    static final class Told {
        final List<String> knots = new ArrayList<>();
        final List<String> kinds = new ArrayList<>();
        final List<Integer> holds = new ArrayList<>();
        final List<String> persons = new ArrayList<>();
        final List<Integer> wills = new ArrayList<>();
        final List<Integer> places = new ArrayList<>();
        final Set<List<Integer>> strings = new HashSet<>();
        final Set<List<Integer>> against = new HashSet<>();
        Law law;
    }

    /** What is one's lull. */
    interface Law {
        int value(int hold, int mind, int many, int others);
    }

    /** Where all are; who is up has the place -1. */
    static final class Afternoon {
        final Told told;
        final List<Integer> wills;
        final List<Integer> places;
        final List<Integer> shifts;
        final Set<List<Integer>> strings;
        Set<Integer> madeFirm = Set.of();
        int hour;

        Afternoon(Told told) {
            this.told = told;
            wills = new ArrayList<>(told.wills);
            places = new ArrayList<>(told.places);
            shifts = new ArrayList<>();
            strings = new HashSet<>(told.strings);
            for (int i = 0; i < wills.size(); i++) {
                shifts.add(0);
            }
        }

        Afternoon(Afternoon other) {
            told = other.told;
            wills = new ArrayList<>(other.wills);
            places = new ArrayList<>(other.places);
            shifts = new ArrayList<>(other.shifts);
            strings = new HashSet<>(other.strings);
            madeFirm = other.madeFirm;
            hour = other.hour;
        }

        boolean awake(int person) {
            return places.get(person) >= 0 && wills.get(person) != 0;
        }

        boolean asleep(int person) {
            return places.get(person) >= 0 && wills.get(person) == 0;
        }

        boolean canShift(int person, int knot) {
            return awake(person) && strings.contains(List.of(places.get(person), knot));
        }

        /** Whether they fall through. */
        boolean shift(int person, int knot) {
            int others = 0;
            for (int each = 0; each < places.size(); each++) {
                others += each != person && places.get(each) == knot ? 1 : 0;
            }
            int will = wills.get(person);
            int lull = told.law == null ? 1 : told.law.value(told.holds.get(knot), will, shifts.get(person), others);
            lull = lull < 0 ? 0 : lull > 9 ? 9 : lull;
            String kind = madeFirm.contains(knot) ? "firm" : told.kinds.get(knot);
            will -= kind.equals("dent") ? lull + lull : lull;
            int least = kind.equals("firm") ? 1 : 0;
            will = will < least ? least : will;
            boolean falls = kind.equals("slip") && told.holds.get(knot) < will;
            wills.set(person, will);
            shifts.set(person, shifts.get(person) + 1);
            places.set(person, falls ? -1 : knot);
            return falls;
        }

        /** The knot that holds the most, or the least, of those to which strings lead; -1: none. */
        int next(int knot, boolean least) {
            int best = -1;
            for (int each = told.knots.size() - 1; each >= 0; each--) {
                if (strings.contains(List.of(knot, each))) {
                    int more = best < 0 ? 0 : told.holds.get(each) - told.holds.get(best);
                    best = best < 0 || (least ? more <= 0 : more >= 0) ? each : best;
                }
            }
            return best;
        }

        int hour(int strays) {
            int fallen = 0;
            for (int person = 0; person < wills.size(); person++) {
                if (awake(person)) {
                    int knot = next(places.get(person), strays == person);
                    if (knot >= 0 && shift(person, knot)) {
                        fallen += 1 << person;
                    }
                }
            }
            hour++;
            return fallen;
        }
    }

    /** A fault ends the reading. */
    static final class Fault extends RuntimeException {
        private static final long serialVersionUID = 1L;
        final int code;

        Fault(int kind, int place) {
            code = kind + 16 * place;
        }
    }

    /** Reads by going down from the whole to its parts. */
    static final class Reading {
        private static final List<String> RESERVED = List.of("knot", "holds", "string", "against", "person", "will", "at",
                "lulls", "hour", "shift", "rouse", "lie", "tie", "plain", "firm", "slip", "dent", "not", "and", "or");
        private final List<String> tokens = new ArrayList<>();
        private final List<Integer> places = new ArrayList<>();
        private int at;

        Reading(String text) {
            int i = 0;
            while (i < text.length()) {
                String rest = text.substring(i);
                String word = rest.replaceFirst("(?s)^([a-z]+|[0-9]+|.).*$", "$1");
                if (!word.equals(" ") && !word.equals("\n")) {
                    boolean none = word.matches("[a-z]{9,}|[0-9]{5,}|[^a-z0-9()<=+*;-]");
                    tokens.add(none ? "?" : word);
                    places.add(i);
                }
                i += word.length();
            }
            tokens.add("");
            places.add(text.length());
        }

        private String token() {
            return tokens.get(at);
        }

        private void fault(int kind) {
            throw new Fault(kind, places.get(at));
        }

        private void faultIf(boolean wrong, int kind) {
            if (wrong) {
                fault(kind);
            }
        }

        private void expect(String due) {
            faultIf(!token().equals(due), 1);
            at++;
        }

        private void name() {
            faultIf(!token().matches("[a-z]+") || RESERVED.contains(token()), 1);
        }

        private String newName(Told told) {
            name();
            faultIf(told.knots.contains(token()) || told.persons.contains(token()), 3);
            return tokens.get(at++);
        }

        private int oldName(List<String> names) {
            name();
            faultIf(!names.contains(token()), 2);
            return names.indexOf(tokens.get(at++));
        }

        private int number(int most) {
            faultIf(!token().matches("[0-9]+"), 1);
            faultIf(Integer.parseInt(token()) > most, 4);
            return Integer.parseInt(tokens.get(at++));
        }

        Told net() {
            Told told = new Told();
            while (!token().isEmpty()) {
                if (token().equals("knot")) {
                    knot(told);
                } else if (token().equals("string")) {
                    pair(told, told.strings, 16);
                } else if (token().equals("against")) {
                    pair(told, told.against, 12);
                } else if (token().equals("person")) {
                    person(told);
                } else if (token().equals("lulls")) {
                    faultIf(told.law != null, 3);
                    at++;
                    told.law = law(0);
                } else {
                    fault(1);
                }
                expect(";");
            }
            return told;
        }

        private void knot(Told told) {
            faultIf(told.knots.size() == 8, 5);
            at++;
            String name = newName(told);
            String kind = token();
            faultIf(!List.of("plain", "firm", "slip", "dent").contains(kind), 1);
            at++;
            expect("holds");
            int holds = number(20);
            told.knots.add(name);
            told.kinds.add(kind);
            told.holds.add(holds);
        }

        private void pair(Told told, Set<List<Integer>> pairs, int most) {
            faultIf(pairs.size() == most, 5);
            at++;
            int first = oldName(told.knots);
            int second = oldName(told.knots);
            at--;
            faultIf(first == second || pairs.contains(List.of(first, second)), 3);
            at++;
            pairs.add(List.of(first, second));
        }

        private void person(Told told) {
            faultIf(told.persons.size() == 4, 5);
            at++;
            String name = newName(told);
            expect("will");
            int will = number(40);
            expect("at");
            int knot = oldName(told.knots);
            told.persons.add(name);
            told.wills.add(will);
            told.places.add(knot);
        }

        private Law law(int within) {
            Law left = test(within);
            while (token().equals("and") || token().equals("or")) {
                Law first = left;
                boolean and = tokens.get(at++).equals("and");
                Law second = test(within);
                left = (h, m, n, o) -> {
                    boolean a = first.value(h, m, n, o) != 0;
                    boolean b = second.value(h, m, n, o) != 0;
                    return (and ? a && b : a || b) ? 1 : 0;
                };
            }
            return left;
        }

        private Law test(int within) {
            Law left = sum(within);
            if (token().equals("<")) {
                at++;
                Law right = sum(within);
                return (h, m, n, o) -> left.value(h, m, n, o) < right.value(h, m, n, o) ? 1 : 0;
            }
            if (token().equals("=")) {
                at++;
                Law right = sum(within);
                return (h, m, n, o) -> left.value(h, m, n, o) == right.value(h, m, n, o) ? 1 : 0;
            }
            return left;
        }

        private Law sum(int within) {
            Law left = product(within);
            while (token().equals("+") || token().equals("-")) {
                Law first = left;
                int sign = tokens.get(at++).equals("+") ? 1 : -1;
                Law second = product(within);
                left = (h, m, n, o) -> first.value(h, m, n, o) + sign * second.value(h, m, n, o);
            }
            return left;
        }

        private Law product(int within) {
            Law left = part(within);
            while (token().equals("*")) {
                at++;
                Law first = left;
                Law second = part(within);
                left = (h, m, n, o) -> first.value(h, m, n, o) * second.value(h, m, n, o);
            }
            return left;
        }

        private Law part(int within) {
            String token = token();
            boolean begins = token.matches("[0-9]+") || List.of("hold", "mind", "many", "others", "not", "(").contains(token);
            faultIf(!begins, 1);
            faultIf(within >= 5, 5);
            at++;
            switch (token) {
                case "hold":
                    return (h, m, n, o) -> h;
                case "mind":
                    return (h, m, n, o) -> m;
                case "many":
                    return (h, m, n, o) -> n;
                case "others":
                    return (h, m, n, o) -> o;
                case "not":
                    Law of = part(within + 1);
                    return (h, m, n, o) -> of.value(h, m, n, o) == 0 ? 1 : 0;
                case "(":
                    Law inner = law(within + 1);
                    expect(")");
                    return inner;
                default:
                    int number = Integer.parseInt(token);
                    return (h, m, n, o) -> number;
            }
        }

        List<String[]> rest(Told told) {
            List<String[]> lines = new ArrayList<>();
            while (!token().isEmpty()) {
                String act = token();
                faultIf(!List.of("hour", "shift", "rouse", "lie", "tie").contains(act), 1);
                faultIf(lines.size() == 40, 5);
                at++;
                int first = act.equals("hour") ? 0 : oldName(act.equals("tie") ? told.knots : told.persons);
                int second = act.equals("hour") || act.equals("rouse") ? 0 : oldName(told.knots);
                if (act.equals("tie") && first == second) {
                    at--;
                    fault(3);
                }
                expect(";");
                lines.add(new String[] {act, "" + first, "" + second});
            }
            return lines;
        }
    }

    private boolean isKnot(int knot) {
        return knot >= 0 && knot < told.knots.size();
    }

    private boolean isPerson(int person) {
        return person >= 0 && person < told.persons.size();
    }

    private interface Choice {
        boolean takes(int each);
    }

    private static int bits(int many, Choice choice) {
        int bits = 0;
        for (int each = 0; each < many; each++) {
            bits += choice.takes(each) ? 1 << each : 0;
        }
        return bits;
    }

    private int knotBits(Choice choice) {
        return bits(told.knots.size(), choice);
    }

    private int personBits(Choice choice) {
        return bits(told.persons.size(), choice);
    }

    public int feed(long a, long b, long c) {
        for (long each : new long[] {a, b, c}) {
            for (byte sign : java.nio.ByteBuffer.allocate(8).putLong(each).array()) {
                if ((sign == 10 || sign >= 32 && sign != 127) && tape.length() < 1000) {
                    tape.append((char) sign);
                }
            }
        }
        return tape.length();
    }

    private Reading taken() {
        Reading reading = new Reading(tape.toString());
        tape.setLength(0);
        return reading;
    }

    public int net() {
        try {
            told = taken().net();
        } catch (Fault fault) {
            return fault.code;
        }
        now = new Afternoon(told);
        rest = new ArrayList<>();
        seen = new ArrayList<>();
        past = new ArrayDeque<>();
        Arrays.fill(markedAfternoons, null);
        return 0;
    }

    public int rest() {
        try {
            rest = taken().rest(told);
        } catch (Fault fault) {
            return fault.code;
        }
        return 0;
    }

    public int knot(int knot, int what) {
        if (!isKnot(knot)) {
            return -1;
        }
        switch (what) {
            case 0:
                return List.of("plain", "firm", "slip", "dent").indexOf(told.kinds.get(knot));
            case 1:
                return told.holds.get(knot);
            case 2:
                return knotBits(each -> now.strings.contains(List.of(knot, each)));
            case 3:
                return knotBits(each -> told.against.contains(List.of(knot, each)));
            case 4:
                return personBits(each -> now.places.get(each) == knot);
            default:
                return -1;
        }
    }

    public int person(int person, int what) {
        if (!isPerson(person) || what < 0 || what > 3) {
            return -2;
        }
        int state = now.awake(person) ? 2 : now.asleep(person) ? 1 : 0;
        return List.of(now.wills.get(person), now.places.get(person), now.shifts.get(person), state).get(what);
    }

    private void keep() {
        past.addLast(new Afternoon(now));
        if (past.size() > 16) {
            past.removeFirst();
        }
    }

    public int shift(int person, int knot) {
        if (!isPerson(person) || !isKnot(knot) || !now.canShift(person, knot)) {
            return -1;
        }
        keep();
        now.shift(person, knot);
        return now.wills.get(person);
    }

    public int hour() {
        keep();
        return now.hour(-1);
    }

    public int rouse(int person) {
        if (!isPerson(person) || now.places.get(person) < 0) {
            return -1;
        }
        keep();
        return now.places.set(person, -1);
    }

    public boolean lie(int person, int knot) {
        if (!isPerson(person) || !isKnot(knot) || now.places.get(person) >= 0) {
            return false;
        }
        keep();
        now.places.set(person, knot);
        return true;
    }

    private static int tie(Afternoon afternoon, int knot, int other) {
        List<Integer> string = List.of(knot, other);
        if (afternoon.strings.remove(string)) {
            return 0;
        }
        afternoon.strings.add(string);
        return 1;
    }

    public int tie(int knot, int other) {
        if (!isKnot(knot) || !isKnot(other) || knot == other) {
            return -1;
        }
        keep();
        return tie(now, knot, other);
    }

    public boolean undo() {
        if (past.isEmpty()) {
            return false;
        }
        now = past.removeLast();
        return true;
    }

    public int judged(int what) {
        Afternoon afternoon = new Afternoon(told);
        int[] judged = {-1, -1, 0};
        for (int line = rest.size() - 1; line >= 0; line--) {
            // all lines ahead of this one, then this one: the least line that is wrong is found last
            afternoon = new Afternoon(told);
            for (int each = 0; each < line; each++) {
                act(afternoon, rest.get(each));
            }
            String outcome = act(afternoon, rest.get(line));
            judged[0] = outcome.equals("refused") ? line : judged[0];
            judged[1] = outcome.equals("fallen") ? line : judged[1];
        }
        afternoon = new Afternoon(told);
        for (String[] line : rest) {
            act(afternoon, line);
        }
        for (int person = 0; person < told.persons.size(); person++) {
            judged[2] += afternoon.asleep(person) ? 1 : 0;
        }
        return what < 0 || what > 2 ? -2 : judged[what];
    }

    private static String act(Afternoon afternoon, String[] line) {
        int first = Integer.parseInt(line[1]);
        int second = Integer.parseInt(line[2]);
        switch (line[0]) {
            case "hour":
                return afternoon.hour(-1) != 0 ? "fallen" : "done";
            case "tie":
                tie(afternoon, first, second);
                return "done";
            case "shift":
                if (!afternoon.canShift(first, second)) {
                    return "refused";
                }
                return afternoon.shift(first, second) ? "fallen" : "done";
            case "rouse":
                if (afternoon.places.get(first) < 0) {
                    return "refused";
                }
                afternoon.places.set(first, -1);
                return "done";
            default:
                if (afternoon.places.get(first) >= 0) {
                    return "refused";
                }
                afternoon.places.set(first, second);
                return "done";
        }
    }

    private Afternoon behind(int hours) {
        Afternoon then = new Afternoon(now);
        for (int i = 0; i < hours; i++) {
            then.hour(-1);
        }
        return then;
    }

    private interface Sight {
        boolean is(Afternoon afternoon);
    }

    private int firstHour(int least, Sight sight) {
        Afternoon then = behind(least);
        for (int hours = least; hours <= 60; hours++) {
            if (sight.is(then)) {
                return hours;
            }
            then.hour(-1);
        }
        return -1;
    }

    public int later(int person, int hours) {
        if (!isPerson(person) || hours < 0 || hours > 60) {
            return -2;
        }
        return behind(hours).places.get(person);
    }

    public int falls(int person) {
        if (!isPerson(person) || now.places.get(person) < 0) {
            return -1;
        }
        return firstHour(1, then -> then.places.get(person) < 0);
    }

    public int sleeps(int person) {
        return isPerson(person) ? firstHour(0, then -> then.asleep(person)) : -1;
    }

    public int still() {
        return firstHour(0, then -> personBits(then::awake) == 0);
    }

    public int meet(int person, int other) {
        if (!isPerson(person) || !isPerson(other) || person == other) {
            return -1;
        }
        return firstHour(0, then -> then.places.get(person) >= 0 && then.places.get(person).equals(then.places.get(other)));
    }

    public int crowd() {
        int best = -1;
        int most = 0;
        for (int knot = told.knots.size() - 1; knot >= 0; knot--) {
            int here = Integer.bitCount(knot(knot, 4));
            if (here > 0 && here >= most) {
                most = here;
                best = knot;
            }
        }
        return best;
    }

    private Set<Integer> reached(int knot) {
        Set<Integer> reached = new HashSet<>();
        Deque<Integer> waiting = new ArrayDeque<>(List.of(knot));
        while (!waiting.isEmpty()) {
            int from = waiting.removeFirst();
            for (int each = 0; each < told.knots.size(); each++) {
                if (now.strings.contains(List.of(from, each)) && reached.add(each)) {
                    waiting.addLast(each);
                }
            }
        }
        return reached;
    }

    public int reach(int knot) {
        return isKnot(knot) ? knotBits(reached(knot)::contains) : -1;
    }

    public int far(int knot, int other) {
        if (!isKnot(knot) || !isKnot(other)) {
            return -1;
        }
        for (int strings = 0; strings < 8; strings++) {
            if (walks(knot, other, strings) > 0) {
                return strings;
            }
        }
        return -1;
    }

    public int walks(int knot, int other, int strings) {
        if (!isKnot(knot) || !isKnot(other) || strings < 0 || strings > 9) {
            return -1;
        }
        long[][] power = new long[8][8];
        for (int i = 0; i < 8; i++) {
            power[i][i] = 1;
        }
        for (int i = 0; i < strings; i++) {
            long[][] next = new long[8][8];
            for (int cell = 0; cell < 512; cell++) {
                int by = cell & 7;
                if (now.strings.contains(List.of(cell >> 6, by))) {
                    next[cell >> 6][cell >> 3 & 7] += power[by][cell >> 3 & 7];
                }
            }
            power = next;
        }
        return (int) power[knot][other];
    }

    public int rings() {
        return knotBits(knot -> reached(knot).contains(knot));
    }

    public int ends() {
        return knotBits(knot -> now.strings.stream().noneMatch(string -> string.get(0) == knot));
    }

    public int trails() {
        return knotBits(knot -> now.strings.stream().noneMatch(string -> string.get(1) == knot));
    }

    public int firms(int knot) {
        return isKnot(knot) ? reached(knot).stream().mapToInt(told.holds::get).sum() : -1;
    }

    /** The fewest shifts of one alone, by all they can do; a state is told by the place and the will. */
    private int fewest(int person, Sight aim) {
        if (!isPerson(person) || !now.awake(person)) {
            return -1;
        }
        Afternoon alone = new Afternoon(now);
        for (int each = 0; each < told.persons.size(); each++) {
            if (each != person) {
                alone.places.set(each, -1);
            }
        }
        List<Afternoon> layer = List.of(alone);
        for (int shifts = 0; shifts <= 30; shifts++) {
            List<Afternoon> next = new ArrayList<>();
            Set<List<Integer>> known = new HashSet<>();
            for (Afternoon each : layer) {
                if (aim.is(each)) {
                    return shifts;
                }
                for (int knot = 0; knot < told.knots.size(); knot++) {
                    if (each.canShift(person, knot)) {
                        Afternoon then = new Afternoon(each);
                        then.shift(person, knot);
                        if (known.add(List.of(then.places.get(person), then.wills.get(person)))) {
                            next.add(then);
                        }
                    }
                }
            }
            layer = next;
        }
        return -1;
    }

    public int goal(int person, int knot) {
        return isKnot(knot) ? fewest(person, then -> then.places.get(person) == knot) : -1;
    }

    public int doze(int person) {
        return fewest(person, then -> then.asleep(person));
    }

    public int tiles(int person) {
        return fewest(person, then -> then.places.get(person) < 0);
    }

    public int held() {
        int best = -1;
        for (int set = 255; set >= 0; set--) {
            Set<Integer> firm = new HashSet<>();
            boolean slips = true;
            for (int knot = 0; knot < 8; knot++) {
                if ((set >> knot & 1) == 1) {
                    firm.add(knot);
                    slips &= isKnot(knot) && told.kinds.get(knot).equals("slip");
                }
            }
            boolean fewer = best < 0 || firm.size() <= Integer.bitCount(best);
            if (slips && fewer && nobodyFalls(firm)) {
                best = set;
            }
        }
        return best;
    }

    private boolean nobodyFalls(Set<Integer> firm) {
        Afternoon then = new Afternoon(now);
        then.madeFirm = firm;
        for (int hour = 0; hour < 60; hour++) {
            if (then.hour(-1) != 0) {
                return false;
            }
        }
        return true;
    }

    private boolean isAgainst(int knot, int other) {
        return told.against.contains(List.of(knot, other));
    }

    private boolean answers(int set, int knot) {
        for (int each = 0; each < 8; each++) {
            if ((set >> each & 1) == 1 && isAgainst(each, knot)) {
                return true;
            }
        }
        return false;
    }

    private boolean isSafe(int set, int knot) {
        for (int each = 0; each < told.knots.size(); each++) {
            if (isAgainst(each, knot) && !answers(set, each)) {
                return false;
            }
        }
        return true;
    }

    private List<Integer> standing() {
        List<Integer> sets = new ArrayList<>();
        for (int set = 0; set < 1 << told.knots.size(); set++) {
            boolean stands = true;
            for (int knot = 0; knot < told.knots.size(); knot++) {
                if ((set >> knot & 1) == 1) {
                    stands &= !answers(set, knot) && isSafe(set, knot);
                }
            }
            if (stands) {
                sets.add(set);
            }
        }
        return sets;
    }

    public int stands() {
        return standing().size();
    }

    public int largest() {
        int best = 0;
        for (int set : standing()) {
            best = Integer.bitCount(set) > Integer.bitCount(best) ? set : best;
        }
        return best;
    }

    public int whole() {
        int whole = 0;
        for (int set : standing()) {
            int answered = knotBits(knot -> answers(set, knot));
            whole += (set | answered) == (1 << told.knots.size()) - 1 ? 1 : 0;
        }
        return whole;
    }

    public int sure() {
        int set = 0;
        while (true) {
            int before = set;
            int more = knotBits(knot -> isSafe(before, knot));
            if ((set | more) == set) {
                return set;
            }
            set |= more;
        }
    }

    public int opposed(int knot) {
        return isKnot(knot) ? knotBits(each -> isAgainst(each, knot)) : -1;
    }

    public int defends(int knot) {
        if (!isKnot(knot)) {
            return -1;
        }
        return knotBits(each -> {
            for (int between = 0; between < 8; between++) {
                if (isAgainst(each, between) && isAgainst(between, knot)) {
                    return true;
                }
            }
            return false;
        });
    }

    /**
     * What comes of a tug from each knot that is broken off behind so many pulls: above 0 the one who pulls wins, the
     * sooner the more; below 0 they lose; 0 it is broken off.
     */
    private int[] tugs(int pulls) {
        if (pulls == 0) {
            int[] worth = new int[8];
            for (int knot = 0; knot < told.knots.size(); knot++) {
                worth[knot] = knot(knot, 2) == 0 ? -1000 : 0;
            }
            return worth;
        }
        int[] then = tugs(pulls - 1);
        int[] worth = new int[8];
        for (int knot = 0; knot < told.knots.size(); knot++) {
            int best = -1000;
            for (int each = 0; each < told.knots.size(); each++) {
                if (now.strings.contains(List.of(knot, each))) {
                    best = Math.max(best, worthBefore(then[each]));
                }
            }
            worth[knot] = best;
        }
        return worth;
    }

    private static int worthBefore(int worthToOther) {
        return worthToOther == 0 ? 0 : worthToOther > 0 ? 1 - worthToOther : -1 - worthToOther;
    }

    public int tug(int knot, int what) {
        if (!isKnot(knot) || what < 0 || what > 1) {
            return -2;
        }
        int worth = tugs(40)[knot];
        if (what == 0) {
            return worth == 0 ? 2 : worth > 0 ? 1 : 0;
        }
        return worth == 0 ? -1 : 1000 - Math.abs(worth);
    }

    public int pull(int knot) {
        if (!isKnot(knot)) {
            return -1;
        }
        int[] worth = tugs(40);
        int best = -1;
        for (int each = 0; each < told.knots.size(); each++) {
            if (now.strings.contains(List.of(knot, each))
                    && (best < 0 || worthBefore(worth[each]) > worthBefore(worth[best]))) {
                best = each;
            }
        }
        return best;
    }

    public boolean see(int from, int knot, int hours, boolean there) {
        if (!isKnot(from) || !isKnot(knot) || hours < 0 || hours > 30) {
            return false;
        }
        if (!seen.isEmpty() && seen.get(0)[0] != from) {
            seen = new ArrayList<>();
        }
        if (seen.size() == 8) {
            return false;
        }
        seen.add(new int[] {from, knot, hours, there ? 1 : 0});
        return true;
    }

    /** Where one of a will is behind hours. */
    private int stranger(int will, int hours) {
        Told alone = new Told();
        alone.knots.addAll(told.knots);
        alone.kinds.addAll(told.kinds);
        alone.holds.addAll(told.holds);
        alone.strings.addAll(now.strings);
        alone.law = told.law;
        alone.wills.add(will);
        alone.places.add(seen.get(0)[0]);
        Afternoon then = new Afternoon(alone);
        for (int hour = 0; hour < hours; hour++) {
            then.hour(-1);
        }
        return then.places.get(0);
    }

    private List<Integer> possible() {
        List<Integer> wills = new ArrayList<>();
        for (int will = 1; will <= 40; will++) {
            boolean fits = true;
            for (int[] each : seen) {
                fits &= (stranger(will, each[2]) == each[1]) == (each[3] == 1);
            }
            if (fits) {
                wills.add(will);
            }
        }
        return wills;
    }

    public int wills(int what) {
        List<Integer> wills = possible();
        if (what == 0) {
            return wills.size();
        }
        if (wills.isEmpty() || what < 0 || what > 2) {
            return -1;
        }
        return what == 1 ? wills.get(0) : wills.get(wills.size() - 1);
    }

    public int ask() {
        if (seen.isEmpty()) {
            return -1;
        }
        List<Integer> wills = possible();
        int least = wills.size();
        int best = -1;
        for (int hours = 0; hours <= 30; hours++) {
            int[] together = new int[9];
            for (int will : wills) {
                together[stranger(will, hours) + 1]++;
            }
            int greatest = Arrays.stream(together).max().getAsInt();
            if (greatest < least) {
                least = greatest;
                best = hours;
            }
        }
        return best;
    }

    /** In parts of ten to the power of the hours. */
    private static long partsUp(Afternoon afternoon, int person, int hours, int odds) {
        if (hours == 0) {
            return afternoon.places.get(person) < 0 ? 1 : 0;
        }
        Afternoon straying = new Afternoon(afternoon);
        straying.hour(person);
        Afternoon going = new Afternoon(afternoon);
        going.hour(-1);
        return odds * partsUp(straying, person, hours - 1, odds) + (10 - odds) * partsUp(going, person, hours - 1, odds);
    }

    public int chance(int person, int hours, int odds) {
        if (!isPerson(person) || now.places.get(person) < 0 || hours < 1 || hours > 6 || odds < 0 || odds > 10) {
            return -1;
        }
        return (int) (partsUp(now, person, hours, odds) * 1000000 / (long) Math.pow(10, hours));
    }

    private static int gain(int both, int loses, int gains, boolean one, boolean other) {
        return one && other ? both : one ? -loses : other ? gains : 0;
    }

    public int rests(int both, int loses, int gains, int what) throws NoSuchElementException {
        if (Math.min(both, Math.min(loses, gains)) < 0 || Math.max(both, Math.max(loses, gains)) > 9) {
            throw new NoSuchElementException();
        }
        List<Integer> found = new ArrayList<>();
        for (int choices = 0; choices < 4; choices++) {
            boolean one = choices > 1;
            boolean other = choices % 2 == 1;
            boolean oneWould = gain(both, loses, gains, !one, other) > gain(both, loses, gains, one, other);
            boolean otherWould = gain(both, loses, gains, !other, one) > gain(both, loses, gains, other, one);
            if (!oneWould && !otherWould) {
                found.add(choices);
            }
        }
        if (what == -1) {
            return found.size();
        }
        if (what < 0 || what >= found.size()) {
            throw new NoSuchElementException();
        }
        return found.get(what);
    }

    public int seasons(int seed, int hours, int what) {
        if (seed < 0 || seed > 9999 || hours < 1 || hours > 99 || what < 0 || what > 2) {
            return -1;
        }
        Afternoon then = new Afternoon(now);
        int persons = told.persons.size();
        long g = seed;
        int falls = 0;
        for (int hour = 0; hour < hours; hour++) {
            long[] draws = new long[3];
            for (int i = 0; i < 3 && persons > 0; i++) {
                g = Math.floorMod(g * 1103515245L + 12345L, 1L << 31);
                draws[i] = (g >> 16) % new int[] {persons, told.knots.size(), 5}[i];
            }
            String act = persons == 0 ? "none" : new String[] {"rouse", "lie", "shift", "shift", "none"}[(int) draws[2]];
            if (!act.equals("none")) {
                falls += act(then, new String[] {act, "" + draws[0], "" + draws[1]}).equals("fallen") ? 1 : 0;
            }
            falls += Integer.bitCount(then.hour(-1));
        }
        int lying = personBits(person -> then.places.get(person) >= 0);
        return what == 0 ? falls : what == 1 ? lying : then.wills.stream().mapToInt(will -> will).sum();
    }

    public boolean mark(int mark, boolean back) {
        if (mark < 0 || mark > 3 || back && markedAfternoons[mark] == null) {
            return false;
        }
        if (back) {
            now = new Afternoon(markedAfternoons[mark]);
            seen = new ArrayList<>(markedSeen.get(mark));
            past = new ArrayDeque<>();
        } else {
            markedAfternoons[mark] = new Afternoon(now);
            markedSeen.set(mark, new ArrayList<>(seen));
        }
        return true;
    }

    public int count(int what) {
        int[] counts = {told.knots.size(), now.strings.size(), told.persons.size(), now.hour,
            personBits(person -> now.places.get(person) >= 0), personBits(now::awake),
            now.wills.stream().mapToInt(will -> will).sum(), rest.size(), seen.size(), past.size(), tape.length()};
        return what < 0 || what >= counts.length ? -1 : counts[what];
    }
}
