import java.math.BigInteger;
import java.util.ArrayList;
import java.util.Arrays;
import java.util.HashMap;
import java.util.List;
import java.util.Map;
import java.util.NoSuchElementException;
import java.util.TreeSet;

/**
 * The document said a second time, slowly and by other means: texts are tried in every way the grammar
 * allows, ways are cut up at their signs each time, mornings are run person by person, parts are big numbers.
 * It has the same face, so that any run of calls can be put to both.
 */
final class Model {
    static final int NONE = -1;
    static final int HIDDEN = -1000000;

    private String tape = "";
    private final List<Village> villages = new ArrayList<>();
    private final List<String> ways = new ArrayList<>();
    private int[] wayOf = new int[6];
    private Morning morning;
    private Morning image;
    private Row row;
    private Told told;
    private int between = 1;

    // ------------------------------------------------------------------ texts

    int feed(int a, int b, int c, int d, int e) {
        StringBuilder more = new StringBuilder(tape);
        for (int word : new int[] {a, b, c, d, e}) {
            for (byte one : new byte[] {(byte) (word >> 24), (byte) (word >> 16), (byte) (word >> 8), (byte) word}) {
                if (one != 0) {
                    more.append((char) (one & 255));
                }
            }
        }
        if (more.length() > 160) {
            return NONE;
        }
        tape = more.toString();
        return tape.length();
    }

    boolean end(int n) {
        if (n < 0 || n > tape.length()) {
            return false;
        }
        tape = tape.substring(0, n);
        return true;
    }

    int fault(int sort) {
        return sort == 0 ? villageFault(tape, new Village()) : sort == 1 ? new Grammar(tape).fault() : -2;
    }

    int text(int sort) {
        if (fault(sort) != NONE || sort == 0 && villages.size() == 4 || sort == 1 && ways.size() == 6) {
            return NONE;
        }
        int number;
        if (sort == 0) {
            Village v = new Village();
            villageFault(tape, v);
            villages.add(v);
            number = villages.size() - 1;
        } else {
            ways.add(tape.replace(" ", ""));
            number = ways.size() - 1;
        }
        tape = "";
        return number;
    }

    private static final class Village {
        final List<int[]> things = new ArrayList<>();
        final List<int[]> sorts = new ArrayList<>();
        final List<Integer> people = new ArrayList<>();
    }

    /** Tokens are numbers (as runs of digits) and single signs; each is looked at in turn. */
    private static int villageFault(String text, Village v) {
        int at = 0;
        int clauses = 0;
        boolean[] there = null;
        int letter = -1;
        char kind = 0;
        int length = text.length();
        while (true) {
            while (at < length && text.charAt(at) == ' ') {
                at++;
            }
            char sign = at < length ? text.charAt(at) : 0;
            if (letter >= 0) {
                int stop = at;
                while (stop < length && Character.isDigit(text.charAt(stop)) && text.charAt(stop) < 128) {
                    stop++;
                }
                if (stop == at) {
                    return at;
                }
                if (stop - at > 3) {
                    return at + 3;
                }
                int number = Integer.parseInt(text.substring(at, stop));
                int low = kind == 't' ? new int[] {1, 1, 0, 0}[letter] : new int[] {1, 0, 0, 0}[letter];
                int high = kind == 't' ? new int[] {9, 3, 999, 99}[letter] : new int[] {9, 9, 99, 1}[letter];
                if (number < low || number > high) {
                    return stop - 1;
                }
                List<int[]> list = kind == 't' ? v.things : v.sorts;
                list.get(list.size() - 1)[letter] = number;
                letter = -1;
                at = stop;
                continue;
            }
            if (kind == 0) {
                if (sign == 't' && v.things.size() < 4) {
                    v.things.add(new int[] {3, 1, 100, 0});
                } else if (sign == 's' && v.sorts.size() < 6) {
                    v.sorts.add(new int[] {1, 1, 0, 1});
                } else {
                    return at;
                }
                kind = sign;
                there = new boolean[4];
                clauses++;
                at++;
                continue;
            }
            int which = at < length ? (kind == 't' ? "npwf" : "mdck").indexOf(sign) : -1;
            if (which >= 0) {
                if (there[which]) {
                    return at;
                }
                there[which] = true;
                letter = which;
                at++;
                continue;
            }
            if (kind == 's') {
                int many = v.sorts.get(v.sorts.size() - 1)[0];
                for (int i = 0; i < many; i++) {
                    v.people.add(v.sorts.size() - 1);
                }
                if (v.people.size() > 20) {
                    return at;
                }
            }
            if (at == length) {
                return v.things.isEmpty() || v.sorts.isEmpty() ? length : NONE;
            }
            if (sign != ';' || clauses == 10) {
                return at;
            }
            kind = 0;
            at++;
        }
    }

    /** Every reading of a way at once: each rule yields all places where it can end; the furthest miss is the fault. */
    private static final class Grammar {
        private final String text;
        private int furthest = 0;

        Grammar(String text) {
            this.text = text;
        }

        int fault() {
            TreeSet<Integer> ends = new TreeSet<>();
            TreeSet<Integer> starts = new TreeSet<>(List.of(0));
            while (!starts.isEmpty()) {
                TreeSet<Integer> next = new TreeSet<>();
                for (int start : starts) {
                    for (int stop : clause(start)) {
                        ends.add(skip(stop));
                        next.addAll(sign(stop, ";"));
                    }
                }
                starts = next;
            }
            return ends.contains(text.length()) ? NONE : furthest;
        }

        private int skip(int at) {
            while (at < text.length() && text.charAt(at) == ' ') {
                at++;
            }
            return at;
        }

        private TreeSet<Integer> sign(int from, String signs) {
            int at = skip(from);
            furthest = Math.max(furthest, at);
            boolean fits = at < text.length() && signs.indexOf(text.charAt(at)) >= 0;
            return fits ? new TreeSet<>(List.of(at + 1)) : new TreeSet<>();
        }

        private TreeSet<Integer> clause(int from) {
            TreeSet<Integer> ends = new TreeSet<>();
            for (int y : sign(from, "y")) {
                for (int begun : sign(y, ":")) {
                    ends.addAll(sum(begun, 0));
                    for (int condition : condition(begun, 0)) {
                        for (int mark : sign(condition, "?")) {
                            ends.addAll(sum(mark, 0));
                        }
                    }
                }
            }
            return ends;
        }

        private TreeSet<Integer> chain(String part, String signs, int from, int depth) {
            TreeSet<Integer> ends = one(part, from, depth);
            TreeSet<Integer> open = new TreeSet<>(ends);
            while (!open.isEmpty()) {
                TreeSet<Integer> next = new TreeSet<>();
                for (int stop : open) {
                    for (int behind : sign(stop, signs)) {
                        next.addAll(one(part, behind, depth));
                    }
                }
                next.removeAll(ends);
                ends.addAll(next);
                open = next;
            }
            return ends;
        }

        private TreeSet<Integer> one(String part, int from, int depth) {
            switch (part) {
                case "truth": return chain("unit", "&", from, depth);
                case "unit": return unit(from, depth);
                case "term": return chain("atom", "*/", from, depth);
                default: return atom(from, depth);
            }
        }

        private TreeSet<Integer> condition(int from, int depth) {
            return chain("truth", "|", from, depth);
        }

        private TreeSet<Integer> sum(int from, int depth) {
            return chain("term", "+-", from, depth);
        }

        private TreeSet<Integer> unit(int from, int depth) {
            TreeSet<Integer> ends = new TreeSet<>();
            if (depth < 6) {
                for (int open : sign(from, "!")) {
                    ends.addAll(unit(open, depth + 1));
                }
                for (int open : sign(from, "(")) {
                    for (int inner : condition(open, depth + 1)) {
                        ends.addAll(sign(inner, ")"));
                    }
                }
            }
            for (int left : sum(from, depth)) {
                for (int mark : sign(left, "=<>")) {
                    ends.addAll(sum(mark, depth));
                }
            }
            return ends;
        }

        private TreeSet<Integer> atom(int from, int depth) {
            TreeSet<Integer> ends = new TreeSet<>(sign(from, "thgnrovc"));
            if (depth < 6) {
                for (int open : sign(from, "[")) {
                    for (int inner : sum(open, depth + 1)) {
                        ends.addAll(sign(inner, "]"));
                    }
                }
            }
            TreeSet<Integer> digits = sign(from, "0123456789");
            for (int count = 1; count <= 4 && !digits.isEmpty(); count++) {
                int stop = digits.first();
                ends.add(stop);
                boolean more = stop < text.length() && text.charAt(stop) >= '0' && text.charAt(stop) <= '9';
                digits = more ? new TreeSet<>(List.of(stop + 1)) : new TreeSet<>();
            }
            return ends;
        }
    }

    int village(int village, int what) {
        if (village < 0 || village >= villages.size() || what < 0 || what > 2) {
            throw new NoSuchElementException();
        }
        Village v = villages.get(village);
        return new int[] {v.things.size(), v.sorts.size(), v.people.size()}[what];
    }

    private static int pick(List<int[]> list, int i, int what) {
        return i < 0 || i >= list.size() || what < 0 || what > 3 ? NONE : list.get(i)[what];
    }

    int thing(int village, int thing, int what) {
        return village < 0 || village >= villages.size() ? NONE : pick(villages.get(village).things, thing, what);
    }

    int sort(int village, int sort, int what) {
        return village < 0 || village >= villages.size() ? NONE : pick(villages.get(village).sorts, sort, what);
    }

    int of(int village, int person) {
        if (village < 0 || village >= villages.size()) {
            return NONE;
        }
        List<Integer> people = villages.get(village).people;
        return person < 0 || person >= people.size() ? NONE : people.get(person);
    }

    boolean way(int sort, int way) {
        if (sort < 0 || sort > 5 || way < 0 || way > 5) {
            return false;
        }
        wayOf[sort] = way;
        return true;
    }

    int wayOf(int sort) {
        return sort < 0 || sort > 5 ? NONE : wayOf[sort];
    }

    int count(int what) {
        switch (what) {
            case 0: return villages.size();
            case 1: return ways.size();
            case 2: return tape.length();
            case 3: return between;
            case 4: return row == null ? NONE : row.chances.length;
            case 5: return morning == null ? NONE : morning.people.length;
            case 6: return told == null ? NONE : told.came.length;
            default: return HIDDEN;
        }
    }

    // ------------------------------------------------------------------ ways

    private static long bound(long number) {
        return Math.max(-1000000, Math.min(1000000, number));
    }

    /** The last of some signs that stands outside all brackets; -1 without. */
    private static int outside(String text, String signs) {
        int depth = 0;
        for (int i = text.length() - 1; i >= 0; i--) {
            char c = text.charAt(i);
            depth += c == ')' || c == ']' ? 1 : c == '(' || c == '[' ? -1 : 0;
            if (depth == 0 && signs.indexOf(c) >= 0) {
                return i;
            }
        }
        return -1;
    }

    private static long sum(String text, Map<Character, Integer> letters) {
        for (String signs : new String[] {"+-", "*/"}) {
            int i = outside(text, signs);
            if (i >= 0) {
                long left = sum(text.substring(0, i), letters);
                long right = sum(text.substring(i + 1), letters);
                switch (text.charAt(i)) {
                    case '+': return bound(left + right);
                    case '-': return bound(left - right);
                    case '*': return bound(left * right);
                    default: return right == 0 ? 0 : bound(left / right);
                }
            }
        }
        if (text.charAt(0) == '[') {
            return sum(text.substring(1, text.length() - 1), letters);
        }
        Integer letter = letters.get(text.charAt(0));
        return letter != null ? letter : Integer.parseInt(text);
    }

    private static boolean holds(String text, Map<Character, Integer> letters) {
        int i = outside(text, "|");
        if (i >= 0) {
            return holds(text.substring(0, i), letters) || holds(text.substring(i + 1), letters);
        }
        i = outside(text, "&");
        if (i >= 0) {
            return holds(text.substring(0, i), letters) && holds(text.substring(i + 1), letters);
        }
        if (text.charAt(0) == '!') {
            return !holds(text.substring(1), letters);
        }
        if (text.charAt(0) == '(') {
            return holds(text.substring(1, text.length() - 1), letters);
        }
        i = outside(text, "=<>");
        int order = Long.compare(sum(text.substring(0, i), letters), sum(text.substring(i + 1), letters));
        return text.charAt(i) == '=' ? order == 0 : text.charAt(i) == '<' ? order < 0 : order > 0;
    }

    private static long valueOf(String way, Map<Character, Integer> letters) {
        for (String clause : way.split(";")) {
            String body = clause.substring(2);
            int mark = body.indexOf('?');
            if (mark < 0 || holds(body.substring(0, mark), letters)) {
                return sum(body.substring(mark + 1), letters);
            }
        }
        return 0;
    }

    // ------------------------------------------------------------------ mornings

    private static final class Person {
        int sort;
        int distance;
        int cost;
        boolean knows;
        int went = NONE;
        int came = NONE;
        int rank = NONE;
    }

    private final class Morning {
        final int villageNumber;
        final int thing;
        final int look;
        int nth;
        final int places;
        final int worth;
        final int fall;
        long x;
        int gone = 0;
        boolean over = false;
        Person[] people;

        Morning(int villageNumber, int thing, int look, long seed) {
            this.villageNumber = villageNumber;
            this.thing = thing;
            this.look = look;
            Village v = villages.get(villageNumber);
            int[] t = v.things.get(thing);
            nth = t[0];
            places = t[1];
            worth = t[2];
            fall = t[3];
            x = seed;
            people = new Person[v.people.size()];
            for (int i = 0; i < people.length; i++) {
                people[i] = new Person();
                int[] s = v.sorts.get(v.people.get(i));
                people[i].sort = v.people.get(i);
                people[i].distance = s[1];
                people[i].cost = s[2];
                people[i].knows = s[3] == 1;
            }
        }

        Morning twin() {
            Morning twin = new Morning(villageNumber, thing, look, x);
            twin.nth = nth;
            twin.gone = gone;
            twin.over = over;
            for (int i = 0; i < people.length; i++) {
                twin.people[i].went = people[i].went;
                twin.people[i].came = people[i].came;
                twin.people[i].rank = people[i].rank;
            }
            return twin;
        }

        int waiting() {
            return (int) Arrays.stream(people).filter(p -> p.went == NONE).count();
        }

        int came() {
            return (int) Arrays.stream(people).filter(p -> p.rank != NONE).count();
        }

        boolean has(Person p) {
            return p.rank >= nth && p.rank <= nth + places - 1;
        }

        int had() {
            return (int) Arrays.stream(people).filter(this::has).count();
        }

        Person holder(int rank) {
            return Arrays.stream(people).filter(p -> p.rank == rank).findAny().orElse(null);
        }

        int lastMinute() {
            Person last = holder(nth + places - 1);
            return last == null ? NONE : last.came;
        }

        int lastPerson() {
            for (int rank = nth + places - 1; rank >= nth; rank--) {
                if (holder(rank) != null) {
                    return Arrays.asList(people).indexOf(holder(rank));
                }
            }
            return NONE;
        }

        int gain(Person p) {
            int gain = has(p) ? Math.max(0, worth - fall * p.came) : 0;
            return gain - p.cost * (p.went == NONE ? gone : p.went);
        }

        private void arrive(Person p, int minute) {
            p.rank = came() + 1;
            p.came = minute;
        }

        int pass(int n) {
            int passed = 0;
            while (passed < n && !over) {
                for (Person p : people) {
                    if (p.went != NONE && p.rank == NONE && p.went + p.distance == gone) {
                        arrive(p, gone);
                    }
                }
                if (had() == places || came() == people.length) {
                    over = true;
                    break;
                }
                for (Person p : people) {
                    if (p.went == NONE && had() < places && wants(p)) {
                        p.went = gone;
                        if (p.distance == 0) {
                            arrive(p, gone);
                        }
                    }
                }
                gone++;
                passed++;
                over = gone == 61;
            }
            return passed;
        }

        private boolean wants(Person p) {
            if (!p.knows && gone == 0) {
                return true;
            }
            x = x * 6364136223846793005L + 1442695040888963407L;
            BigInteger unsigned = new BigInteger(Long.toUnsignedString(x)).shiftRight(33);
            int draw = unsigned.mod(BigInteger.TEN).intValue();
            if (wayOf[p.sort] >= ways.size()) {
                return false;
            }
            Map<Character, Integer> letters = new HashMap<>();
            letters.put('t', gone);
            letters.put('h', came());
            letters.put('g', look == 0 ? 0 : people.length - came() - waiting());
            letters.put('n', nth);
            letters.put('r', (int) Arrays.stream(people).filter(q -> q != p && q.went == NONE && q.sort == p.sort).count());
            letters.put('o', (int) Arrays.stream(people).filter(q -> q != p && q.went == NONE).count());
            letters.put('v', Math.max(0, worth - fall * gone));
            letters.put('c', p.cost);
            return draw < valueOf(ways.get(wayOf[p.sort]), letters);
        }
    }

    boolean start(int village, int thing, int look, long seed) {
        if (thing(village, thing, 0) == NONE || look < 0 || look > 1) {
            return false;
        }
        morning = new Morning(village, thing, look, seed);
        return true;
    }

    int minutes(int n) {
        return morning == null || n < 1 || n > 61 ? NONE : morning.pass(n);
    }

    private boolean person(int i) {
        return morning != null && i >= 0 && i < morning.people.length;
    }

    int who(int person, int what) {
        if (!person(person) || what < 0 || what > 5) {
            return HIDDEN;
        }
        Person p = morning.people[person];
        int state = p.went == NONE ? 0 : p.rank == NONE ? 1 : 2;
        return new int[] {state, p.went, p.came, p.rank, morning.has(p) ? 1 : 0, morning.gain(p)}[what];
    }

    int about(int what) {
        if (morning == null || what < 0 || what > 7) {
            return HIDDEN;
        }
        int underway = morning.people.length - morning.waiting() - morning.came();
        return new int[] {morning.gone, morning.came(), morning.waiting(), underway, morning.had(),
            morning.over ? 1 : 0, morning.lastMinute(), morning.lastPerson()}[what];
    }

    int image() {
        if (morning == null) {
            return NONE;
        }
        image = morning.twin();
        return image.gone;
    }

    int back() {
        if (image == null) {
            return NONE;
        }
        morning = image.twin();
        return morning.gone;
    }

    // ------------------------------------------------------------------ over seeds

    /** Whole mornings, one a seed; what is otherwise: another NTH, LOOK, one sent, a sort of strangers (NONE: none). */
    private List<Morning> mornings(int n, int nth, int look, int sent, int stranger) {
        List<Morning> list = new ArrayList<>();
        for (int seed = 0; seed < n; seed++) {
            Morning m = new Morning(morning.villageNumber, morning.thing, look == NONE ? morning.look : look, seed);
            m.nth = nth == NONE ? m.nth : nth;
            for (int i = 0; i < m.people.length; i++) {
                m.people[i].knows &= i != sent && m.people[i].sort != stranger;
            }
            m.pass(61);
            list.add(m);
        }
        return list;
    }

    private List<Morning> plain(int n) {
        return mornings(n, NONE, NONE, NONE, NONE);
    }

    private static int late(List<Morning> list) {
        return list.stream().mapToInt(m -> m.lastMinute() == NONE ? 60 : m.lastMinute()).sum();
    }

    private static int gains(List<Morning> list, int person) {
        return list.stream().mapToInt(m -> m.gain(m.people[person])).sum();
    }

    private boolean seeds(int n) {
        return morning != null && n >= 1 && n <= 40;
    }

    int odds(int person, int n, int what) {
        if (!person(person) || !seeds(n) || what < 0 || what > 1) {
            return HIDDEN;
        }
        List<Morning> list = plain(n);
        return what == 1 ? gains(list, person) : (int) list.stream().filter(m -> m.has(m.people[person])).count();
    }

    int law(int nth, int n) {
        return !seeds(n) || nth < -1 || nth == 0 || nth > 9 ? NONE : late(mornings(n, nth, NONE, NONE, NONE));
    }

    int which(int n) {
        int best = NONE;
        for (int nth = 9; nth >= 1 && seeds(n); nth--) {
            best = best == NONE || law(nth, n) <= law(best, n) ? nth : best;
        }
        return best;
    }

    int quiet(int n) {
        if (!seeds(n)) {
            return NONE;
        }
        int bits = 0;
        for (int nth = 1; nth <= 9; nth++) {
            boolean all = mornings(n, nth, NONE, NONE, NONE).stream()
                .allMatch(m -> Arrays.stream(m.people).allMatch(p -> p.went == 0));
            bits += all ? 1 << (nth - 1) : 0;
        }
        return bits;
    }

    int pay(int person, int other, int n) {
        if (!person(person) || !person(other) || person == other || !seeds(n)) {
            return HIDDEN;
        }
        return gains(mornings(n, NONE, NONE, other, NONE), person) - gains(plain(n), person);
    }

    int price(int person, int n) {
        if (!person(person) || !seeds(n)) {
            return NONE;
        }
        return Math.max(0, gains(plain(n), person) - gains(mornings(n, NONE, NONE, person, NONE), person));
    }

    private boolean sortHere(int sort) {
        return morning != null && sort(morning.villageNumber, sort, 0) != NONE;
    }

    int strangers(int sort, int n) {
        return !sortHere(sort) || !seeds(n) ? HIDDEN : late(mornings(n, NONE, NONE, NONE, sort)) - late(plain(n));
    }

    int ends(int minute, int n) {
        if (!seeds(n) || minute < -1 || minute > 60) {
            return NONE;
        }
        return (int) plain(n).stream().filter(m -> m.lastMinute() == minute).count();
    }

    int both(int one, int other, int n) {
        if (!person(one) || !person(other) || one == other || !seeds(n)) {
            return NONE;
        }
        return (int) plain(n).stream().filter(m -> m.has(m.people[one]) && m.has(m.people[other])).count();
    }

    int kin(int one, int other, int n) {
        if (!person(one) || !person(other) || one == other || !seeds(n)) {
            return HIDDEN;
        }
        List<Morning> sent = mornings(n, NONE, NONE, one, NONE);
        return gains(sent, one) + gains(sent, other) - gains(plain(n), one) - gains(plain(n), other);
    }

    int seen(int n) {
        return !seeds(n) ? HIDDEN
            : late(mornings(n, NONE, 1, NONE, NONE)) - late(mornings(n, NONE, 0, NONE, NONE));
    }

    int gains(int sort, int n) {
        if (!sortHere(sort) || !seeds(n)) {
            return HIDDEN;
        }
        return plain(n).stream()
            .mapToInt(m -> Arrays.stream(m.people).filter(p -> p.sort == sort).mapToInt(m::gain).sum()).sum();
    }

    private int gainsWith(int sort, int way, int n) {
        int own = wayOf[sort];
        wayOf[sort] = way;
        int gains = gains(sort, n);
        wayOf[sort] = own;
        return gains;
    }

    int better(int sort, int n) {
        if (ways.isEmpty() || !sortHere(sort) || !seeds(n)) {
            return NONE;
        }
        int best = 0;
        int most = gainsWith(sort, 0, n);
        for (int way = 1; way < ways.size(); way++) {
            int gains = gainsWith(sort, way, n);
            best = gains > most ? way : best;
            most = Math.max(most, gains);
        }
        return best;
    }

    int agree(int n) {
        if (ways.isEmpty() || !seeds(n)) {
            return NONE;
        }
        int[] kept = wayOf.clone();
        int sorts = villages.get(morning.villageNumber).sorts.size();
        int changes = 0;
        int unchanged = 0;
        for (int turn = 0; unchanged < sorts; turn = (turn + 1) % sorts) {
            int better = better(turn, n);
            if (gainsWith(turn, better, n) > gains(turn, n)) {
                wayOf[turn] = better;
                changes++;
                unchanged = 0;
            } else {
                unchanged++;
            }
            if (changes > 30) {
                wayOf = kept;
                return NONE;
            }
        }
        return changes;
    }

    // ------------------------------------------------------------------ rows

    private static final class Row {
        int m;
        int nth;
        int worth;
        int fall;
        int cost;
        int[] chances;
    }

    private static BigInteger big(long number) {
        return BigInteger.valueOf(number);
    }

    private static final BigInteger WHOLE = big(1000000000);

    private static BigInteger factorial(int n) {
        return n < 2 ? BigInteger.ONE : big(n).multiply(factorial(n - 1));
    }

    private static BigInteger choose(int n, int k) {
        return factorial(n).divide(factorial(k)).divide(factorial(n - k));
    }

    private static BigInteger move(BigInteger part, int left, int k, int chance) {
        return choose(left, k).multiply(big(chance).pow(k)).multiply(big(10 - chance).pow(left - k))
            .multiply(part).divide(BigInteger.TEN.pow(left));
    }

    /** How many of m went ahead of a minute: the parts of each. */
    private static BigInteger[] states(int m, int[] chances, int minute) {
        BigInteger[] parts = new BigInteger[m + 1];
        Arrays.fill(parts, BigInteger.ZERO);
        if (minute == 0) {
            parts[0] = WHOLE;
            return parts;
        }
        BigInteger[] ahead = states(m, chances, minute - 1);
        for (int j = 0; j <= m; j++) {
            for (int k = 0; j + k <= m; k++) {
                parts[j + k] = parts[j + k].add(move(ahead[j], m - j, k, chances[minute - 1]));
            }
        }
        return parts;
    }

    private BigInteger takenIn(int[] chances, int minute) {
        BigInteger sum = BigInteger.ZERO;
        BigInteger[] parts = states(row.m, chances, minute);
        for (int j = 0; j < row.nth; j++) {
            for (int k = row.nth - j; j + k <= row.m; k++) {
                sum = sum.add(move(parts[j], row.m - j, k, chances[minute]));
            }
        }
        return sum;
    }

    private BigInteger valueOf(int[] chances, int minute) {
        BigInteger spent = WHOLE.multiply(big((long) row.cost * minute));
        if (minute == chances.length) {
            return spent.negate();
        }
        BigInteger sum = BigInteger.ZERO;
        BigInteger[] parts = states(row.m - 1, chances, minute);
        for (int j = 0; j <= row.m - 1; j++) {
            for (int k = 0; j + k <= row.m - 1; k++) {
                if (j <= row.nth - 1 && j + k >= row.nth - 1) {
                    sum = sum.add(move(parts[j], row.m - 1 - j, k, chances[minute]).divide(big(k + 1)));
                }
            }
        }
        return sum.multiply(big(Math.max(0, row.worth - row.fall * minute))).subtract(spent);
    }

    private boolean atRest(int[] chances, int slack) {
        int minutes = chances.length;
        BigInteger[] values = new BigInteger[minutes + 1];
        for (int i = 0; i <= minutes; i++) {
            values[i] = valueOf(chances, i);
        }
        BigInteger least = Arrays.stream(values).reduce(BigInteger::max).get().subtract(WHOLE.multiply(big(slack)));
        for (int i = 0; i <= minutes; i++) {
            boolean reached = Arrays.stream(chances, 0, i).noneMatch(c -> c == 10);
            if (reached && (i == minutes || chances[i] > 0) && values[i].compareTo(least) < 0) {
                return false;
            }
        }
        return true;
    }

    boolean row(int m, int nth, int worth, int fall, int cost, int minutes) {
        boolean good = m >= 2 && m <= 9 && nth >= 1 && nth <= m && worth >= 0 && worth <= 999 && fall >= 0
            && fall <= 99 && cost >= 0 && cost <= 99 && minutes >= 1 && minutes <= 12;
        if (good) {
            row = new Row();
            row.m = m;
            row.nth = nth;
            row.worth = worth;
            row.fall = fall;
            row.cost = cost;
            row.chances = new int[minutes];
            Arrays.fill(row.chances, 5);
        }
        return good;
    }

    private boolean minuteOfRow(int minute, int more) {
        return row != null && minute >= 0 && minute < row.chances.length + more;
    }

    boolean chance(int minute, int chance) {
        if (!minuteOfRow(minute, 0) || chance < 0 || chance > 10) {
            return false;
        }
        row.chances[minute] = chance;
        return true;
    }

    int taken(int minute) {
        if (row != null && minute == NONE) {
            BigInteger never = WHOLE;
            for (int i = 0; i < row.chances.length; i++) {
                never = never.subtract(takenIn(row.chances, i));
            }
            return never.intValueExact();
        }
        return minuteOfRow(minute, 0) ? takenIn(row.chances, minute).intValueExact() : NONE;
    }

    long value(int minute) {
        if (!minuteOfRow(minute, 1)) {
            throw new NoSuchElementException();
        }
        return valueOf(row.chances, minute).longValueExact();
    }

    int best() {
        if (row == null) {
            return NONE;
        }
        int best = row.chances.length;
        for (int i = best - 1; i >= 0; i--) {
            best = value(i) >= value(best) ? i : best;
        }
        return best;
    }

    int rest(int slack) {
        return row == null || slack < 0 || slack > 99 ? NONE : atRest(row.chances, slack) ? 1 : 0;
    }

    int found(int slack, int i) {
        if (row == null || row.chances.length > 3 || slack < 0 || slack > 99) {
            return NONE;
        }
        List<Integer> list = new ArrayList<>();
        int[] a = new int[row.chances.length];
        for (int number = 0; number < Math.round(Math.pow(11, a.length)); number++) {
            String digits = "00" + Integer.toString(number, 11);
            for (int d = 0; d < a.length; d++) {
                a[d] = Character.digit(digits.charAt(digits.length() - a.length + d), 11);
            }
            if (atRest(a, slack)) {
                list.add(number);
            }
        }
        return i == NONE ? list.size() : i < 0 || i >= list.size() ? NONE : list.get(i);
    }

    int mean() {
        if (row == null) {
            return NONE;
        }
        long sum = (long) taken(NONE) * row.chances.length;
        for (int i = 0; i < row.chances.length; i++) {
            sum += (long) taken(i) * i;
        }
        return (int) (sum / 1000);
    }

    long gone(int minute) {
        if (!minuteOfRow(minute, 1)) {
            return NONE;
        }
        BigInteger[] parts = states(row.m, row.chances, minute);
        long sum = 0;
        for (int j = 0; j < parts.length; j++) {
            sum += parts[j].longValueExact() * j;
        }
        return sum;
    }

    int like(int minute) {
        if (!minuteOfRow(minute, 0)) {
            return NONE;
        }
        int best = 0;
        long most = -1;
        for (int i = 0; i < row.chances.length; i++) {
            for (int chance = 0; chance <= 10; chance++) {
                int[] a = row.chances.clone();
                a[i] = chance;
                long sum = 0;
                for (int j = 0; j <= minute; j++) {
                    sum += takenIn(a, j).longValueExact();
                }
                if (sum > most) {
                    most = sum;
                    best = 11 * i + chance;
                }
            }
        }
        return best;
    }

    // ------------------------------------------------------------------ mornings told

    private final class Told {
        Village village;
        int[] thing;
        int[] came;

        /** The people who came, in the order of their ranks. */
        List<Integer> order(int[] minutes) {
            List<Integer> order = new ArrayList<>();
            for (int i = 0; i < minutes.length; i++) {
                if (minutes[i] != NONE) {
                    order.add(i);
                }
            }
            order.sort((a, b) -> minutes[a] != minutes[b] ? minutes[a] - minutes[b] : a - b);
            return order;
        }

        int rank(int person) {
            int place = order(came).indexOf(person);
            return place < 0 ? NONE : place + 1;
        }

        boolean has(int person) {
            return rank(person) >= thing[0] && rank(person) <= thing[0] + thing[1] - 1;
        }

        int gain(int person) {
            int cost = village.sorts.get(village.people.get(person))[2];
            int gain = has(person) ? Math.max(0, thing[2] - thing[3] * came[person]) : 0;
            return gain - cost * (came[person] == NONE ? 60 : came[person]);
        }

        int gainIf(int person, int minute) {
            int kept = came[person];
            came[person] = minute;
            int gain = gain(person);
            came[person] = kept;
            return gain;
        }

        int answer(int person) {
            int best = 0;
            for (int minute = 1; minute <= 60; minute++) {
                best = gainIf(person, minute) > gainIf(person, best) ? minute : best;
            }
            return gainIf(person, NONE) > gainIf(person, best) ? NONE : best;
        }

        int regret(int person) {
            return gainIf(person, answer(person)) - gain(person);
        }
    }

    private boolean oneTold(int person) {
        return told != null && person >= 0 && person < told.came.length;
    }

    boolean tell(int village, int thing) {
        if (thing(village, thing, 0) == NONE) {
            return false;
        }
        told = new Told();
        told.village = villages.get(village);
        told.thing = told.village.things.get(thing);
        told.came = new int[told.village.people.size()];
        Arrays.fill(told.came, NONE);
        return true;
    }

    boolean came(int person, int minute) {
        if (!oneTold(person) || minute < -1 || minute > 60) {
            return false;
        }
        told.came[person] = minute;
        return true;
    }

    int told(int person, int what) {
        if (!oneTold(person)) {
            return HIDDEN;
        }
        switch (what) {
            case 0: return told.came[person];
            case 1: return told.rank(person);
            case 2: return told.gain(person);
            case 3: return told.answer(person);
            case 4: return told.regret(person);
            default: return HIDDEN;
        }
    }

    int ill() {
        if (told == null) {
            return NONE;
        }
        int bits = 0;
        for (int i = 0; i < told.came.length; i++) {
            bits += told.regret(i) > 0 ? 1 << i : 0;
        }
        return bits;
    }

    int settle() {
        if (told == null) {
            return NONE;
        }
        int[] kept = told.came.clone();
        int changes = 0;
        int unchanged = 0;
        for (int i = 0; unchanged < told.came.length; i = (i + 1) % told.came.length) {
            if (told.regret(i) > 0) {
                told.came[i] = told.answer(i);
                changes++;
                unchanged = 0;
            } else {
                unchanged++;
            }
            if (changes > 1000) {
                told.came = kept;
                return NONE;
            }
        }
        return changes;
    }

    boolean between(int v) {
        if (v < 0 || v > 9) {
            return false;
        }
        between = v;
        return true;
    }

    int round(int person, int what) {
        if (!oneTold(person) || what < 0 || what > 2) {
            return HIDDEN;
        }
        int[] minutes = told.came.clone();
        int visited = 0;
        for (int thing = 0; thing < told.village.things.size(); thing++) {
            int[] numbers = told.village.things.get(thing);
            List<Integer> order = told.order(minutes);
            int place = order.indexOf(person);
            if (place < 0) {
                break;
            }
            visited++;
            if (place + 1 >= numbers[0]) {
                boolean has = place + 1 < numbers[0] + numbers[1];
                return what == 2 ? visited : !has ? NONE : what == 0 ? thing : minutes[person];
            }
            int[] next = new int[minutes.length];
            Arrays.fill(next, NONE);
            for (int i = 0; i < order.size() && i + 1 < numbers[0]; i++) {
                next[order.get(i)] = minutes[order.get(i)] + between;
            }
            minutes = next;
        }
        return what == 2 ? visited : NONE;
    }

    int swap(int one, int other) {
        if (!oneTold(one) || !oneTold(other) || one == other) {
            return HIDDEN;
        }
        int ahead = told.gain(one) + told.gain(other);
        int[] kept = told.came;
        told.came = kept.clone();
        told.came[one] = kept[other];
        told.came[other] = kept[one];
        int behind = told.gain(one) + told.gain(other);
        told.came = kept;
        return behind - ahead;
    }

    int crowd() {
        int best = NONE;
        int most = 0;
        for (int minute = 0; minute <= 60 && told != null; minute++) {
            int wanted = minute;
            int many = (int) Arrays.stream(told.came).filter(c -> c == wanted).count();
            if (many > most) {
                most = many;
                best = minute;
            }
        }
        return best;
    }

    int free(int person) {
        for (int minute = 0; minute <= 60 && oneTold(person); minute++) {
            int kept = told.came[person];
            told.came[person] = minute;
            boolean has = told.has(person);
            told.came[person] = kept;
            if (has) {
                return minute;
            }
        }
        return NONE;
    }
}
