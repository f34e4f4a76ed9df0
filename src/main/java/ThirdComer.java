import java.util.Arrays;
import java.util.NoSuchElementException;

/**
 * Villages of things and people, ways by which one goes or waits, and what comes of it when each
 * thing is had by the so-many-eth who comes.
 */
public final class ThirdComer {
    public static final int NONE = -1;
    public static final int HIDDEN = -1000000;

    private static final int NO_SUCH_SORT = -2;
    private static final int VILLAGE_TEXT = 0;
    private static final int WAY_TEXT = 1;

    private static final int MOST_BYTES = 160;
    private static final int MOST_VILLAGES = 4;
    private static final int MOST_WAYS = 6;
    private static final int MOST_CLAUSES = 10;
    private static final int MOST_THINGS = 4;
    private static final int MOST_SORTS = 6;
    private static final int MOST_PEOPLE = 20;
    private static final int MOST_SEEDS = 40;
    private static final int MOST_NTH = 9;
    private static final int MOST_BETWEEN = 9;
    private static final int LAST_MINUTE = 60;
    private static final int TURNS_OF_A_RING = 1000;
    private static final int MOST_AGREED = 30;

    private static final int ITEMS = 4;
    private static final int NTH = 0;
    private static final int PLACES = 1;
    private static final int WORTH = 2;
    private static final int FALL = 3;
    private static final int MANY = 0;
    private static final int DISTANCE = 1;
    private static final int COST = 2;
    private static final int KNOW = 3;

    private final Tape tape = new Tape();
    private final VillageReader villageReader = new VillageReader(tape);
    private final WayReader wayReader = new WayReader(tape);
    /** The one behind the last is spare: texts are read into it before they count. */
    private final Village[] villages = new Village[MOST_VILLAGES + 1];
    private int villageCount = 0;
    private final Customs customs = new Customs();
    private final Morning morning = new Morning();
    private final Morning kept = new Morning();
    private final Tally tally = new Tally();
    private final Row row = new Row();
    private final Told told = new Told();
    private final Tour tour = new Tour();
    private int between = 1;

    public ThirdComer() {
        for (int i = 0; i < villages.length; i++) {
            villages[i] = new Village();
        }
    }

    // ---- texts

    public int feed(int a, int b, int c, int d, int e) {
        int more = Tape.bytesOf(a) + Tape.bytesOf(b) + Tape.bytesOf(c) + Tape.bytesOf(d) + Tape.bytesOf(e);
        if (tape.length + more > MOST_BYTES) {
            return NONE;
        }
        tape.add(a);
        tape.add(b);
        tape.add(c);
        tape.add(d);
        tape.add(e);
        return tape.length;
    }

    public boolean end(int n) {
        if (n < 0 || n > tape.length) {
            return false;
        }
        tape.length = n;
        return true;
    }

    public int fault(int sort) {
        if (sort == VILLAGE_TEXT) {
            return villageReader.read(villages[villageCount]);
        }
        if (sort == WAY_TEXT) {
            return wayReader.read(customs.spare());
        }
        return NO_SUCH_SORT;
    }

    public int text(int sort) {
        if (fault(sort) != NONE) {
            return NONE;
        }
        int number = sort == VILLAGE_TEXT ? villageCount : customs.count;
        if (number >= (sort == VILLAGE_TEXT ? MOST_VILLAGES : MOST_WAYS)) {
            return NONE;
        }
        if (sort == VILLAGE_TEXT) {
            villageCount++;
        } else {
            customs.count++;
        }
        tape.length = 0;
        return number;
    }

    public int village(int village, int what) throws NoSuchElementException {
        if (!isVillage(village) || !isOf(what, 3)) {
            throw new NoSuchElementException("no such village, or nothing of this number is told of one");
        }
        Village asked = villages[village];
        return what == 0 ? asked.things : what == 1 ? asked.sorts : asked.people;
    }

    public int thing(int village, int thing, int what) {
        if (!isThing(village, thing) || !isOf(what, ITEMS)) {
            return NONE;
        }
        return villages[village].ofThing(thing, what);
    }

    public int sort(int village, int sort, int what) {
        if (!isVillage(village) || !isOf(sort, villages[village].sorts) || !isOf(what, ITEMS)) {
            return NONE;
        }
        return villages[village].ofSort(sort, what);
    }

    public int of(int village, int person) {
        if (!isVillage(village) || !isOf(person, villages[village].people)) {
            return NONE;
        }
        return villages[village].sortOf[person];
    }

    public boolean way(int sort, int way) {
        if (!isOf(sort, MOST_SORTS) || !isOf(way, MOST_WAYS)) {
            return false;
        }
        customs.ofSort[sort] = way;
        return true;
    }

    public int wayOf(int sort) {
        return isOf(sort, MOST_SORTS) ? customs.ofSort[sort] : NONE;
    }

    public int count(int what) {
        switch (what) {
            case 0: return villageCount;
            case 1: return customs.count;
            case 2: return tape.length;
            case 3: return between;
            case 4: return row.isThere() ? row.minutes : NONE;
            case 5: return morning.began() ? morning.village.people : NONE;
            case 6: return told.began() ? told.village.people : NONE;
            default: return HIDDEN;
        }
    }

    // ---- the morning

    public boolean start(int village, int thing, int look, long seed) {
        if (!isThing(village, thing) || !isOf(look, 2)) {
            return false;
        }
        morning.beOf(villages[village], thing, look);
        morning.begin(seed);
        return true;
    }

    public int minutes(int n) {
        if (!morning.began() || n < 1 || n > LAST_MINUTE + 1) {
            return NONE;
        }
        return morning.pass(n, customs);
    }

    public int who(int person, int what) {
        if (!isPerson(person)) {
            return HIDDEN;
        }
        switch (what) {
            case 0: return morning.stateOf(person);
            case 1: return morning.went[person];
            case 2: return morning.minuteOf(person);
            case 3: return morning.rank[person];
            case 4: return morning.has(person) ? 1 : 0;
            case 5: return morning.gainOf(person);
            default: return HIDDEN;
        }
    }

    public int about(int what) {
        if (!morning.began()) {
            return HIDDEN;
        }
        switch (what) {
            case 0: return morning.minute;
            case 1: return morning.here;
            case 2: return morning.waiting;
            case 3: return morning.underway();
            case 4: return morning.had;
            case 5: return morning.over ? 1 : 0;
            case 6: return morning.lastMinute;
            case 7: return morning.lastPerson;
            default: return HIDDEN;
        }
    }

    public int image() {
        if (!morning.began()) {
            return NONE;
        }
        kept.copy(morning);
        return kept.minute;
    }

    public int back() {
        if (!kept.began()) {
            return NONE;
        }
        morning.copy(kept);
        return morning.minute;
    }

    // ---- over seeds

    public int odds(int person, int n, int what) {
        if (!isPerson(person) || !isSeeds(n) || !isOf(what, 2)) {
            return HIDDEN;
        }
        runPlain(n);
        return what == 0 ? tally.hadBy(person) : tally.sums[person];
    }

    public int law(int nth, int n) {
        if (!morning.began() || !isSeeds(n) || nth != NONE && (nth < 1 || nth > MOST_NTH)) {
            return NONE;
        }
        return lateBy(nth == NONE ? morning.nth : nth, n);
    }

    public int which(int n) {
        if (!morning.began() || !isSeeds(n)) {
            return NONE;
        }
        int least = lateBy(1, n);
        int found = 1;
        for (int nth = 2; nth <= MOST_NTH; nth++) {
            int late = lateBy(nth, n);
            if (late < least) {
                least = late;
                found = nth;
            }
        }
        return found;
    }

    public int quiet(int n) {
        if (!morning.began() || !isSeeds(n)) {
            return NONE;
        }
        int bits = 0;
        for (int nth = 1; nth <= MOST_NTH; nth++) {
            lateBy(nth, n);
            if (tally.allAtOnce) {
                bits |= 1 << nth - 1;
            }
        }
        return bits;
    }

    public int pay(int person, int other, int n) {
        if (!isPair(person, other) || !isSeeds(n)) {
            return HIDDEN;
        }
        runPlain(n);
        int plain = tally.sums[person];
        runSent(other, n);
        return tally.sums[person] - plain;
    }

    public int price(int person, int n) {
        if (!isPerson(person) || !isSeeds(n)) {
            return NONE;
        }
        runPlain(n);
        int plain = tally.sums[person];
        runSent(person, n);
        return Math.max(0, plain - tally.sums[person]);
    }

    public int strangers(int sort, int n) {
        if (!isSortOfMorning(sort) || !isSeeds(n)) {
            return HIDDEN;
        }
        runPlain(n);
        int plain = tally.late();
        tally.trial.stranger = sort;
        tally.run(n, customs);
        return tally.late() - plain;
    }

    public int ends(int minute, int n) {
        if (!morning.began() || !isSeeds(n) || !isMinuteOrNone(minute)) {
            return NONE;
        }
        runPlain(n);
        return tally.endsIn(minute);
    }

    public int both(int one, int other, int n) {
        if (!isPair(one, other) || !isSeeds(n)) {
            return NONE;
        }
        runPlain(n);
        return tally.hadByBoth(one, other);
    }

    public int kin(int one, int other, int n) {
        if (!isPair(one, other) || !isSeeds(n)) {
            return HIDDEN;
        }
        runPlain(n);
        int plain = tally.sums[one] + tally.sums[other];
        runSent(one, n);
        return tally.sums[one] + tally.sums[other] - plain;
    }

    public int seen(int n) {
        if (!morning.began() || !isSeeds(n)) {
            return HIDDEN;
        }
        return lateLooking(1, n) - lateLooking(0, n);
    }

    public int gains(int sort, int n) {
        if (!isSortOfMorning(sort) || !isSeeds(n)) {
            return HIDDEN;
        }
        runPlain(n);
        return tally.gainsOf(sort);
    }

    public int better(int sort, int n) {
        if (customs.count == 0 || !isSortOfMorning(sort) || !isSeeds(n)) {
            return NONE;
        }
        tally.takeAfter(morning);
        return tally.bestWay(sort, n, customs);
    }

    public int agree(int n) {
        if (customs.count == 0 || !morning.began() || !isSeeds(n)) {
            return NONE;
        }
        customs.keep();
        tally.takeAfter(morning);
        int changes = 0;
        // A round without a change ends it, so there are no more rounds than changes, and one.
        for (int round = 0; round <= MOST_AGREED; round++) {
            int ahead = changes;
            for (int sort = 0; sort < morning.village.sorts && changes <= MOST_AGREED; sort++) {
                int way = tally.bestWay(sort, n, customs);
                if (tally.mostGains > tally.ownGains) {
                    customs.ofSort[sort] = way;
                    changes++;
                }
            }
            if (changes > MOST_AGREED) {
                break;
            }
            if (changes == ahead) {
                return changes;
            }
        }
        customs.restore();
        return NONE;
    }

    // ---- the row of people alike

    public boolean row(int m, int nth, int worth, int fall, int cost, int minutes) {
        boolean people = m >= 2 && m <= Row.MOST_ALIKE && nth >= 1 && nth <= m;
        if (!people || !isOf(worth, 1000) || !isOf(fall, 100) || !isOf(cost, 100)) {
            return false;
        }
        if (minutes < 1 || minutes > Row.MOST_MINUTES) {
            return false;
        }
        row.begin(m, nth, minutes);
        row.worth = worth;
        row.fall = fall;
        row.cost = cost;
        return true;
    }

    public boolean chance(int minute, int chance) {
        if (!row.isThere() || !isOf(minute, row.minutes) || !isOf(chance, Row.TEN + 1)) {
            return false;
        }
        row.chances[minute] = chance;
        return true;
    }

    public int taken(int minute) {
        if (!row.isThere() || minute != NONE && !isOf(minute, row.minutes)) {
            return NONE;
        }
        row.followAll();
        return (int) (minute == NONE ? row.never() : row.takenIn[minute]);
    }

    public long value(int minute) throws NoSuchElementException {
        if (!row.isThere() || !isOf(minute, row.minutes + 1)) {
            throw new NoSuchElementException("no row, or no such minute in it");
        }
        row.weigh(row.chances);
        return row.values[minute];
    }

    public int best() {
        if (!row.isThere()) {
            return NONE;
        }
        row.weigh(row.chances);
        return row.greatest();
    }

    public int rest(int slack) {
        if (!row.isThere() || !isOf(slack, 100)) {
            return NONE;
        }
        return row.restsBy(slack, row.chances) ? 1 : 0;
    }

    public int found(int slack, int i) {
        if (!row.isThere() || row.minutes > Row.MOST_SEARCHED || !isOf(slack, 100)) {
            return NONE;
        }
        row.search(slack);
        if (i == NONE) {
            return row.restCount;
        }
        return isOf(i, row.restCount) ? row.rests[i] : NONE;
    }

    public int mean() {
        if (!row.isThere()) {
            return NONE;
        }
        row.followAll();
        return row.meanMinute();
    }

    public long gone(int minute) {
        if (!row.isThere() || !isOf(minute, row.minutes + 1)) {
            return NONE;
        }
        row.followAll();
        return row.goneAhead[minute];
    }

    public int like(int minute) {
        if (!row.isThere() || !isOf(minute, row.minutes)) {
            return NONE;
        }
        return row.likeliest(minute);
    }

    // ---- the morning told

    public boolean tell(int village, int thing) {
        if (!isThing(village, thing)) {
            return false;
        }
        told.begin(villages[village], thing);
        return true;
    }

    public boolean came(int person, int minute) {
        if (!isTold(person) || !isMinuteOrNone(minute)) {
            return false;
        }
        told.minutes[person] = minute;
        return true;
    }

    public int told(int person, int what) {
        if (!isTold(person)) {
            return HIDDEN;
        }
        switch (what) {
            case 0: return told.minutes[person];
            case 1: return told.rankOf(person);
            case 2: return told.gainOf(person);
            case 3: return told.answerOf(person);
            case 4: return told.regretOf(person);
            default: return HIDDEN;
        }
    }

    public int ill() {
        if (!told.began()) {
            return NONE;
        }
        int bits = 0;
        for (int person = 0; person < told.village.people; person++) {
            if (told.regretOf(person) > 0) {
                bits |= 1 << person;
            }
        }
        return bits;
    }

    public int settle() {
        return told.began() ? told.takeTurns() : NONE;
    }

    public boolean between(int v) {
        if (!isOf(v, MOST_BETWEEN + 1)) {
            return false;
        }
        between = v;
        return true;
    }

    public int round(int person, int what) {
        if (!isTold(person) || !isOf(what, 3)) {
            return HIDDEN;
        }
        tour.walk(told, between);
        return what == 0 ? tour.thingOf[person] : what == 1 ? tour.minuteOf[person] : tour.visited[person];
    }

    public int swap(int one, int other) {
        if (!isTold(one) || !isTold(other) || one == other) {
            return HIDDEN;
        }
        return told.gainBySwap(one, other);
    }

    public int crowd() {
        return told.began() ? told.fullest() : NONE;
    }

    public int free(int person) {
        return isTold(person) ? told.firstWithPlace(person) : NONE;
    }

    // ---- what is asked of numbers, and runs over seeds

    private static boolean isOf(int number, int many) {
        return number >= 0 && number < many;
    }

    private static boolean isMinuteOrNone(int minute) {
        return minute == NONE || isOf(minute, LAST_MINUTE + 1);
    }

    private static boolean isSeeds(int n) {
        return n >= 1 && n <= MOST_SEEDS;
    }

    private boolean isVillage(int village) {
        return isOf(village, villageCount);
    }

    private boolean isThing(int village, int thing) {
        return isVillage(village) && isOf(thing, villages[village].things);
    }

    private boolean isPerson(int person) {
        return morning.began() && isOf(person, morning.village.people);
    }

    private boolean isPair(int one, int other) {
        return isPerson(one) && isPerson(other) && one != other;
    }

    private boolean isSortOfMorning(int sort) {
        return morning.began() && isOf(sort, morning.village.sorts);
    }

    private boolean isTold(int person) {
        return told.began() && isOf(person, told.village.people);
    }

    private void runPlain(int n) {
        tally.takeAfter(morning);
        tally.run(n, customs);
    }

    private void runSent(int person, int n) {
        tally.takeAfter(morning);
        tally.trial.sent = person;
        tally.run(n, customs);
    }

    private int lateBy(int nth, int n) {
        tally.takeAfter(morning);
        tally.trial.nth = nth;
        tally.run(n, customs);
        return tally.late();
    }

    private int lateLooking(int look, int n) {
        tally.takeAfter(morning);
        tally.trial.look = look;
        tally.run(n, customs);
        return tally.late();
    }

    /** The bytes that have been fed and are not yet a text, and how far they have been read. */
    private static final class Tape {
        private final int[] bytes = new int[MOST_BYTES];
        int length = 0;
        int at = 0;
        int wrongAt = NONE;

        static int bytesOf(int word) {
            int many = 0;
            for (int shift = 24; shift >= 0; shift -= 8) {
                if ((word >>> shift & 255) != 0) {
                    many++;
                }
            }
            return many;
        }

        void add(int word) {
            for (int shift = 24; shift >= 0; shift -= 8) {
                int one = word >>> shift & 255;
                if (one != 0 && length < MOST_BYTES) {
                    bytes[length] = one;
                    length++;
                }
            }
        }

        void rewind() {
            at = 0;
            wrongAt = NONE;
        }

        /** The byte that is next, be it a blank; NONE at the end. */
        private int next() {
            return at >= 0 && at < length && at < MOST_BYTES ? bytes[at] : NONE;
        }

        /** The next byte that is no blank, without taking it; NONE at the end. */
        int peek() {
            while (at >= 0 && at < length && at < MOST_BYTES) {
                if (bytes[at] != ' ') {
                    return bytes[at];
                }
                at++;
            }
            return NONE;
        }

        /** Says where the text is wrong, and false, so that readers can end with it. */
        boolean fail(int place) {
            wrongAt = place;
            return false;
        }

        boolean take(char sign) {
            if (peek() != sign) {
                return fail(at);
            }
            at++;
            return true;
        }

        /** Takes a number of so many digits at most; NONE behind a fault. */
        int takeNumber(int most) {
            if (!isDigit(peek())) {
                fail(at);
                return NONE;
            }
            int number = 0;
            for (int digits = 0; digits < most && isDigit(next()); digits++) {
                number = number * 10 + next() - '0';
                at++;
            }
            if (isDigit(next())) {
                fail(at);
                return NONE;
            }
            return number;
        }

        private static boolean isDigit(int sign) {
            return sign >= '0' && sign <= '9';
        }

        /** Which of some letters is next; NONE: none of them. */
        int peekAmong(String letters) {
            int sign = peek();
            return sign == NONE ? NONE : letters.indexOf((char) sign);
        }
    }

    /** Reads villages. */
    private static final class VillageReader {
        private static final int DIGITS = 3;
        private static final String OF_THINGS = "npwf";
        private static final int[] LEAST_OF_THINGS = {1, 1, 0, 0};
        private static final int[] MOST_OF_THINGS = {9, 3, 999, 99};
        private static final String OF_SORTS = "mdck";
        private static final int[] LEAST_OF_SORTS = {1, 0, 0, 0};
        private static final int[] MOST_OF_SORTS = {9, 9, 99, 1};

        private final Tape tape;

        VillageReader(Tape tape) {
            this.tape = tape;
        }

        /** The fault of the tape; without one it stands in the village. */
        int read(Village village) {
            tape.rewind();
            village.clear();
            for (int clause = 1; clause <= MOST_CLAUSES; clause++) {
                if (!readClause(village)) {
                    return tape.wrongAt;
                }
                int next = tape.peek();
                if (next == NONE) {
                    return village.things > 0 && village.sorts > 0 ? NONE : tape.at;
                }
                if (next != ';' || clause == MOST_CLAUSES) {
                    return tape.at;
                }
                tape.at++;
            }
            return tape.at;
        }

        private boolean readClause(Village village) {
            int letter = tape.peek();
            if (letter == 't' && village.things < MOST_THINGS) {
                tape.at++;
                int from = village.addThing();
                return readItems(OF_THINGS, LEAST_OF_THINGS, MOST_OF_THINGS, village.thingItems, from);
            }
            if (letter != 's' || village.sorts >= MOST_SORTS) {
                return tape.fail(tape.at);
            }
            tape.at++;
            int from = village.addSort();
            if (!readItems(OF_SORTS, LEAST_OF_SORTS, MOST_OF_SORTS, village.sortItems, from)) {
                return false;
            }
            // Too many people are wrong at the byte behind the clause, and its blanks have been read by now.
            return village.settlePeople() || tape.fail(tape.at);
        }

        private boolean readItems(String letters, int[] least, int[] most, int[] into, int from) {
            int there = 0;
            for (int item = 0; item <= ITEMS; item++) {
                int which = tape.peekAmong(letters);
                if (which < 0 || which >= ITEMS) {
                    return true;
                }
                if ((there >> which & 1) != 0) {
                    return tape.fail(tape.at);
                }
                there |= 1 << which;
                tape.at++;
                int number = tape.takeNumber(DIGITS);
                if (number == NONE) {
                    return false;
                }
                if (number < least[which] || number > most[which]) {
                    return tape.fail(tape.at - 1);
                }
                into[from + which] = number;
            }
            return true;
        }
    }

    /** Things and sorts of people, four numbers of each, and the sort of each of the people. */
    private static final class Village {
        private static final int[] PLAIN_THING = {3, 1, 100, 0};
        private static final int[] PLAIN_SORT = {1, 1, 0, 1};

        int things = 0;
        int sorts = 0;
        int people = 0;
        final int[] thingItems = new int[MOST_THINGS * ITEMS];
        final int[] sortItems = new int[MOST_SORTS * ITEMS];
        final int[] sortOf = new int[MOST_PEOPLE];

        void clear() {
            things = 0;
            sorts = 0;
            people = 0;
        }

        /** A thing more, as it is without items: where its items stand. There must be room for it. */
        int addThing() {
            int from = things * ITEMS;
            System.arraycopy(PLAIN_THING, 0, thingItems, from, ITEMS);
            things++;
            return from;
        }

        /** A sort more, likewise. */
        int addSort() {
            int from = sorts * ITEMS;
            System.arraycopy(PLAIN_SORT, 0, sortItems, from, ITEMS);
            sorts++;
            return from;
        }

        /** Numbers the people of the newest sort; false: there are too many. */
        boolean settlePeople() {
            int sort = sorts - 1;
            int all = people + ofSort(sort, MANY);
            if (all > MOST_PEOPLE) {
                return false;
            }
            Arrays.fill(sortOf, people, all, sort);
            people = all;
            return true;
        }

        int ofThing(int thing, int what) {
            int place = thing * ITEMS + what;
            return place >= 0 && place < thingItems.length ? thingItems[place] : 0;
        }

        int ofSort(int sort, int what) {
            int place = sort * ITEMS + what;
            return place >= 0 && place < sortItems.length ? sortItems[place] : 0;
        }

        int ofPerson(int person, int what) {
            return isOf(person, people) ? ofSort(sortOf[person], what) : 0;
        }

        /** What a thing is worth to one who comes to it in a minute. */
        int worthIn(int thing, int minute) {
            return Math.max(0, ofThing(thing, WORTH) - ofThing(thing, FALL) * minute);
        }
    }

    /**
     * Reads ways, and puts what it reads behind one another so that each sign stands behind what it joins.
     * Each step yields false behind a fault.
     */
    private static final class WayReader {
        private static final int DIGITS = 4;
        private static final int DEEPEST = 6;
        private static final String LETTERS = "thgnrovc";

        private final Tape tape;
        private Way way = null;

        WayReader(Tape tape) {
            this.tape = tape;
        }

        /** The fault of the tape; without one it stands in the way. */
        int read(Way into) {
            tape.rewind();
            way = into;
            way.size = 0;
            for (int clause = 0; clause < MOST_BYTES; clause++) {
                if (!readClause()) {
                    return tape.wrongAt;
                }
                if (tape.peek() == NONE) {
                    return NONE;
                }
                if (!tape.take(';')) {
                    return tape.wrongAt;
                }
            }
            return tape.at;
        }

        private boolean readClause() {
            if (!tape.take('y') || !tape.take(':')) {
                return false;
            }
            int first = tape.peek();
            boolean begun = first != '!' && first != '(';
            if (begun && !readSum(0)) {
                return false;
            }
            if (begun && !isComparison(tape.peek())) {
                return way.add(Way.DONE, 0);
            }
            if (!readCondition(0, begun) || !tape.take('?')) {
                return false;
            }
            int test = way.size;
            way.add('?', 0);
            boolean good = readSum(0) && way.add(Way.DONE, 0);
            way.leadTo(test, way.size);
            return good;
        }

        /** The first sum of the condition may have been read already: only what follows it tells that it is one. */
        private boolean readCondition(int depth, boolean begun) {
            boolean good = readTruth(depth, begun);
            while (good && tape.peek() == '|' && tape.at < tape.length) {
                tape.at++;
                good = readTruth(depth, false) && way.add('|', 0);
            }
            return good;
        }

        private boolean readTruth(int depth, boolean begun) {
            boolean good = readUnit(depth, begun);
            while (good && tape.peek() == '&' && tape.at < tape.length) {
                tape.at++;
                good = readUnit(depth, false) && way.add('&', 0);
            }
            return good;
        }

        private boolean readUnit(int depth, boolean begun) {
            int sign = tape.peek();
            if (!begun && sign == '!') {
                return openAt(depth) && readUnit(depth + 1, false) && way.add('!', 0);
            }
            if (!begun && sign == '(') {
                return openAt(depth) && readCondition(depth + 1, false) && tape.take(')');
            }
            if (!begun && !readSum(depth)) {
                return false;
            }
            int comparison = tape.peek();
            if (!isComparison(comparison)) {
                return tape.fail(tape.at);
            }
            tape.at++;
            return readSum(depth) && way.add(comparison, 0);
        }

        private boolean readSum(int depth) {
            boolean good = readTerm(depth);
            int sign = tape.peek();
            while (good && (sign == '+' || sign == '-') && tape.at < tape.length) {
                tape.at++;
                good = readTerm(depth) && way.add(sign, 0);
                sign = tape.peek();
            }
            return good;
        }

        private boolean readTerm(int depth) {
            boolean good = readAtom(depth);
            int sign = tape.peek();
            while (good && (sign == '*' || sign == '/') && tape.at < tape.length) {
                tape.at++;
                good = readAtom(depth) && way.add(sign, 0);
                sign = tape.peek();
            }
            return good;
        }

        private boolean readAtom(int depth) {
            int sign = tape.peek();
            if (sign == '[') {
                return openAt(depth) && readSum(depth + 1) && tape.take(']');
            }
            int letter = tape.peekAmong(LETTERS);
            if (letter >= 0) {
                tape.at++;
                return way.add(Way.LETTER, letter);
            }
            int number = tape.takeNumber(DIGITS);
            return number != NONE && way.add(Way.NUMBER, number);
        }

        /** Takes one of ( [ ! that stands within so many. */
        private boolean openAt(int depth) {
            if (depth >= DEEPEST) {
                return tape.fail(tape.at);
            }
            tape.at++;
            return true;
        }

        private static boolean isComparison(int sign) {
            return sign == '=' || sign == '<' || sign == '>';
        }
    }

    /** A way, as steps over a pile of numbers. */
    private static final class Way {
        static final int NUMBER = '0';
        static final int LETTER = 'a';
        static final int DONE = ';';
        private static final int BOUND = 1000000;

        final int[] steps = new int[MOST_BYTES];
        final int[] numbers = new int[MOST_BYTES];
        int size = 0;

        /** Every step comes of a byte of its own, so there is always room for it. */
        boolean add(int step, int number) {
            if (size >= MOST_BYTES) {
                return false;
            }
            steps[size] = step;
            numbers[size] = number;
            size++;
            return true;
        }

        void leadTo(int test, int next) {
            if (isOf(test, size)) {
                numbers[test] = next;
            }
        }

        /** The sum of the first clause whose condition holds, 0 without. */
        int valueIn(int[] letters, int[] pile) {
            int high = 0;
            for (int at = 0; at < size; at++) {
                int step = steps[at];
                int number = numbers[at];
                if (step == NUMBER || step == LETTER) {
                    if (high >= pile.length || step == LETTER && !isOf(number, letters.length)) {
                        return 0;
                    }
                    pile[high] = step == NUMBER ? number : letters[number];
                    high++;
                    continue;
                }
                if (high < 1 || high > pile.length) {
                    return 0;
                }
                if (step == DONE) {
                    return pile[high - 1];
                }
                if (step == '!') {
                    pile[high - 1] = 1 - pile[high - 1];
                } else if (step == '?') {
                    high--;
                    // A condition that does not hold leads on to the next clause, never back.
                    at = pile[high] == 0 ? Math.max(at, number - 1) : at;
                } else if (high >= 2) {
                    high--;
                    pile[high - 1] = joined(step, pile[high - 1], pile[high]);
                }
            }
            return 0;
        }

        private static int joined(int sign, int one, int other) {
            long result;
            switch (sign) {
                case '+': result = (long) one + other; break;
                case '-': result = (long) one - other; break;
                case '*': result = (long) one * other; break;
                case '/': result = other == 0 ? 0 : (long) one / other; break;
                case '=': return one == other ? 1 : 0;
                case '<': return one < other ? 1 : 0;
                case '>': return one > other ? 1 : 0;
                case '&': return one & other;
                default: return one | other;
            }
            return result > BOUND ? BOUND : result < -BOUND ? -BOUND : (int) result;
        }
    }

    /** The ways there are, and which of them each sort has. */
    private static final class Customs {
        private static final int DEEPEST_PILE = 64;

        /** The one behind the last is spare: texts are read into it before they count. */
        final Way[] ways = new Way[MOST_WAYS + 1];
        int count = 0;
        final int[] ofSort = new int[MOST_SORTS];
        private final int[] keptOfSort = new int[MOST_SORTS];
        final int[] letters = new int[8];
        final int[] pile = new int[DEEPEST_PILE];

        Customs() {
            for (int i = 0; i < ways.length; i++) {
                ways[i] = new Way();
            }
        }

        Way spare() {
            return ways[Math.min(count, MOST_WAYS)];
        }

        /** The way that a sort has; null: there is none of that number. */
        Way usedBy(int sort) {
            int number = isOf(sort, MOST_SORTS) ? ofSort[sort] : NONE;
            return isOf(number, count) ? ways[number] : null;
        }

        void keep() {
            System.arraycopy(ofSort, 0, keptOfSort, 0, MOST_SORTS);
        }

        void restore() {
            System.arraycopy(keptOfSort, 0, ofSort, 0, MOST_SORTS);
        }
    }

    /** A morning: what it is of, and how far it has come. */
    private static final class Morning {
        Village village = null;
        int thing = 0;
        int look = 0;
        int nth = 0;
        private int places = 0;
        /** One who goes in minute 0 unasked. */
        int sent = NONE;
        /** A sort that is taken not to know. */
        int stranger = NONE;
        long draw = 0;
        /** How many have gone by, and so the one that is next. */
        int minute = 0;
        int here = 0;
        int waiting = 0;
        int had = 0;
        boolean over = false;
        int lastMinute = NONE;
        int lastPerson = NONE;
        final int[] went = new int[MOST_PEOPLE];
        final int[] rank = new int[MOST_PEOPLE];
        final int[] waitingOf = new int[MOST_SORTS];

        boolean began() {
            return village != null;
        }

        void beOf(Village newVillage, int newThing, int newLook) {
            village = newVillage;
            thing = newThing;
            look = newLook;
            nth = newVillage.ofThing(newThing, NTH);
            places = newVillage.ofThing(newThing, PLACES);
            sent = NONE;
            stranger = NONE;
        }

        void begin(long seed) {
            draw = seed;
            minute = 0;
            here = 0;
            waiting = village.people;
            had = 0;
            over = false;
            lastMinute = NONE;
            lastPerson = NONE;
            Arrays.fill(went, NONE);
            Arrays.fill(rank, NONE);
            for (int sort = 0; sort < village.sorts; sort++) {
                waitingOf[sort] = village.ofSort(sort, MANY);
            }
        }

        /** Stands as another one does; neither has anyone sent or made a stranger, which trials alone have. */
        void copy(Morning other) {
            village = other.village;
            thing = other.thing;
            look = other.look;
            nth = other.nth;
            places = other.places;
            draw = other.draw;
            minute = other.minute;
            here = other.here;
            waiting = other.waiting;
            had = other.had;
            over = other.over;
            lastMinute = other.lastMinute;
            lastPerson = other.lastPerson;
            System.arraycopy(other.went, 0, went, 0, MOST_PEOPLE);
            System.arraycopy(other.rank, 0, rank, 0, MOST_PEOPLE);
            System.arraycopy(other.waitingOf, 0, waitingOf, 0, MOST_SORTS);
        }

        int underway() {
            return village.people - waiting - here;
        }

        int stateOf(int person) {
            return went[person] == NONE ? 0 : rank[person] == NONE ? 1 : 2;
        }

        int minuteOf(int person) {
            return rank[person] == NONE ? NONE : went[person] + village.ofPerson(person, DISTANCE);
        }

        boolean has(int person) {
            return rank[person] >= nth && rank[person] < nth + places;
        }

        int gainOf(int person) {
            int worth = has(person) ? village.worthIn(thing, minuteOf(person)) : 0;
            int waited = went[person] == NONE ? minute : went[person];
            return worth - village.ofPerson(person, COST) * waited;
        }

        /** Lets so many minutes go by, as long as it is not over: how many did. */
        int pass(int most, Customs customs) {
            int passed = 0;
            for (int i = 0; i < most && !over; i++) {
                arrive();
                if (had >= places || here >= village.people) {
                    over = true;
                } else {
                    decide(customs);
                    minute++;
                    passed++;
                    over = minute > LAST_MINUTE;
                }
            }
            return passed;
        }

        private void arrive() {
            if (underway() == 0) {
                return;
            }
            for (int person = 0; person < village.people; person++) {
                boolean onTheWay = stateOf(person) == 1;
                if (onTheWay && went[person] + village.ofPerson(person, DISTANCE) == minute) {
                    receive(person);
                }
            }
        }

        private void receive(int person) {
            here++;
            rank[person] = here;
            if (has(person)) {
                had++;
                lastPerson = person;
                if (had >= places) {
                    lastMinute = minute;
                }
            }
        }

        private void decide(Customs customs) {
            int valued = NONE;
            int value = 0;
            for (int person = 0; person < village.people && had < places; person++) {
                if (went[person] != NONE) {
                    continue;
                }
                int sort = village.sortOf[person];
                boolean goes = minute == 0 && goesUnasked(person, sort);
                if (!goes) {
                    // Those of a sort see the same till somebody goes, so one value does for them.
                    if (sort != valued) {
                        spell(sort, customs.letters);
                        Way way = customs.usedBy(sort);
                        value = way == null ? 0 : way.valueIn(customs.letters, customs.pile);
                        valued = sort;
                    }
                    goes = drawOfTen() < value;
                }
                if (goes) {
                    send(person, sort);
                    valued = NONE;
                }
            }
        }

        private boolean goesUnasked(int person, int sort) {
            return person == sent || sort == stranger || village.ofSort(sort, KNOW) == 0;
        }

        private void send(int person, int sort) {
            went[person] = minute;
            waiting--;
            waitingOf[sort]--;
            if (village.ofSort(sort, DISTANCE) == 0) {
                receive(person);
            }
        }

        private int drawOfTen() {
            draw = draw * 6364136223846793005L + 1442695040888963407L;
            return (int) ((draw >>> 33) % 10);
        }

        /** The letters t h g n r o v c for one of a sort who waits. */
        private void spell(int sort, int[] letters) {
            letters[0] = minute;
            letters[1] = here;
            letters[2] = look == 0 ? 0 : underway();
            letters[3] = nth;
            letters[4] = waitingOf[sort] - 1;
            letters[5] = waiting - 1;
            letters[6] = village.worthIn(thing, minute);
            letters[7] = village.ofSort(sort, COST);
        }
    }

    /** Whole mornings over seeds, and what came of them. */
    private static final class Tally {
        final Morning trial = new Morning();
        final int[] sums = new int[MOST_PEOPLE];
        private final int[] hadBits = new int[MOST_SEEDS];
        private final int[] lastMinutes = new int[MOST_SEEDS];
        private int seeds = 0;
        boolean allAtOnce = false;
        int mostGains = 0;
        int ownGains = 0;

        void takeAfter(Morning morning) {
            trial.beOf(morning.village, morning.thing, morning.look);
        }

        void run(int n, Customs customs) {
            seeds = Math.min(n, MOST_SEEDS);
            allAtOnce = true;
            Arrays.fill(sums, 0);
            for (int seed = 0; seed < seeds; seed++) {
                trial.begin(seed);
                trial.pass(LAST_MINUTE + 1, customs);
                note(seed);
            }
        }

        private void note(int seed) {
            int bits = 0;
            for (int person = 0; person < trial.village.people; person++) {
                sums[person] += trial.gainOf(person);
                bits |= trial.has(person) ? 1 << person : 0;
                allAtOnce = allAtOnce && trial.went[person] == 0;
            }
            hadBits[seed] = bits;
            lastMinutes[seed] = trial.lastMinute;
        }

        int hadBy(int person) {
            return hadByBoth(person, person);
        }

        int hadByBoth(int one, int other) {
            int many = 0;
            for (int seed = 0; seed < seeds; seed++) {
                many += hadBits[seed] >> one & hadBits[seed] >> other & 1;
            }
            return many;
        }

        int late() {
            int late = 0;
            for (int seed = 0; seed < seeds; seed++) {
                late += lastMinutes[seed] == NONE ? LAST_MINUTE : lastMinutes[seed];
            }
            return late;
        }

        /** In how many the last place was had in a minute; NONE: never. */
        int endsIn(int minute) {
            int many = 0;
            for (int seed = 0; seed < seeds; seed++) {
                many += lastMinutes[seed] == minute ? 1 : 0;
            }
            return many;
        }

        int gainsOf(int sort) {
            int gains = 0;
            for (int person = 0; person < trial.village.people; person++) {
                gains += trial.village.sortOf[person] == sort ? sums[person] : 0;
            }
            return gains;
        }

        /** The way with which a sort gains most; how much that is, and with its own, stands in the fields. */
        int bestWay(int sort, int n, Customs customs) {
            int own = customs.ofSort[sort];
            int found = NONE;
            run(n, customs);
            ownGains = gainsOf(sort);
            for (int way = 0; way < customs.count; way++) {
                customs.ofSort[sort] = way;
                if (way != own) {
                    run(n, customs);
                }
                int gains = way == own ? ownGains : gainsOf(sort);
                if (found == NONE || gains > mostGains) {
                    found = way;
                    mostGains = gains;
                }
            }
            customs.ofSort[sort] = own;
            return found;
        }
    }

    /** People alike who go by chances, in parts of 10 to the 9. */
    private static final class Row {
        static final int MOST_ALIKE = 9;
        static final int MOST_MINUTES = 12;
        static final int MOST_SEARCHED = 3;
        static final int TEN = 10;
        private static final int EVEN_CHANCE = 5;
        private static final int CHANCES = 11;
        private static final int ROWS_SEARCHED = CHANCES * CHANCES * CHANCES;
        private static final long WHOLE = 1000000000L;
        private static final int STATES = MOST_ALIKE + 1;
        private static final int[] CHOOSE = {
            1, 0, 0, 0, 0, 0, 0, 0, 0, 0,
            1, 1, 0, 0, 0, 0, 0, 0, 0, 0,
            1, 2, 1, 0, 0, 0, 0, 0, 0, 0,
            1, 3, 3, 1, 0, 0, 0, 0, 0, 0,
            1, 4, 6, 4, 1, 0, 0, 0, 0, 0,
            1, 5, 10, 10, 5, 1, 0, 0, 0, 0,
            1, 6, 15, 20, 15, 6, 1, 0, 0, 0,
            1, 7, 21, 35, 35, 21, 7, 1, 0, 0,
            1, 8, 28, 56, 70, 56, 28, 8, 1, 0,
            1, 9, 36, 84, 126, 126, 84, 36, 9, 1,
        };

        int people = 0;
        int nth = 0;
        int worth = 0;
        int fall = 0;
        int cost = 0;
        int minutes = 0;
        final int[] chances = new int[MOST_MINUTES];
        final long[] takenIn = new long[MOST_MINUTES];
        final long[] goneAhead = new long[MOST_MINUTES + 1];
        final long[] values = new long[MOST_MINUTES + 1];
        private final long[] shares = new long[MOST_MINUTES];
        private long[] parts = new long[STATES];
        private long[] partsBehind = new long[STATES];
        /** By base and exponent: base times STATES and the exponent. */
        private final long[] powers = new long[CHANCES * STATES];
        private final int[] tried = new int[MOST_MINUTES];
        /** The rows at rest that were found last, and by which slack (NONE: by none). */
        final int[] rests = new int[ROWS_SEARCHED];
        int restCount = 0;
        private int searchedBy = NONE;

        Row() {
            for (int base = 0; base < CHANCES; base++) {
                long power = 1;
                for (int exponent = 0; exponent < STATES; exponent++) {
                    powers[base * STATES + exponent] = power;
                    power *= base;
                }
            }
        }

        boolean isThere() {
            return minutes > 0;
        }

        void begin(int newPeople, int newNth, int newMinutes) {
            people = newPeople;
            nth = newNth;
            minutes = newMinutes;
            Arrays.fill(chances, EVEN_CHANCE);
            searchedBy = NONE;
        }

        void followAll() {
            follow(people, chances, minutes);
        }

        /** Goes through the minutes with so many people: what is taken, shared, and gone ahead of each. */
        private void follow(int many, int[] row, int upTo) {
            Arrays.fill(parts, 0);
            parts[0] = WHOLE;
            for (int minute = 0; minute < upTo; minute++) {
                goneAhead[minute] = goneByNow();
                goOn(many, row[minute], minute);
            }
            goneAhead[upTo] = goneByNow();
        }

        private long goneByNow() {
            long gone = 0;
            for (int j = 0; j < STATES; j++) {
                gone += parts[j] * j;
            }
            return gone;
        }

        private void goOn(int many, int chance, int minute) {
            long taken = 0;
            long share = 0;
            Arrays.fill(partsBehind, 0);
            for (int j = 0; j <= many; j++) {
                int left = many - j;
                long all = powers[TEN * STATES + left];
                for (int k = 0; k <= left && parts[j] > 0 && all > 0; k++) {
                    long part = parts[j] * weight(left, k, chance) / all;
                    partsBehind[j + k] += part;
                    taken += j < nth && j + k >= nth ? part : 0;
                    share += j < nth && j + k >= nth - 1 ? part / (k + 1) : 0;
                }
            }
            takenIn[minute] = taken;
            shares[minute] = share;
            long[] spent = parts;
            parts = partsBehind;
            partsBehind = spent;
        }

        /** Of 10 to the left: by how much k of those left go. */
        private long weight(int left, int k, int chance) {
            return CHOOSE[left * STATES + k] * powers[chance * STATES + k] * powers[(TEN - chance) * STATES + left - k];
        }

        private long takenUpTo(int last) {
            long taken = 0;
            for (int minute = 0; minute <= last; minute++) {
                taken += takenIn[minute];
            }
            return taken;
        }

        long never() {
            return WHOLE - takenUpTo(minutes - 1);
        }

        int meanMinute() {
            long sum = never() * minutes;
            for (int minute = 0; minute < minutes; minute++) {
                sum += takenIn[minute] * minute;
            }
            return (int) (sum / 1000);
        }

        /** Fills the values of the minutes, and of not going, the others going by a row of chances. */
        void weigh(int[] row) {
            follow(people - 1, row, minutes);
            for (int minute = 0; minute < minutes; minute++) {
                long worthThen = Math.max(0, worth - fall * minute);
                values[minute] = shares[minute] * worthThen - WHOLE * cost * minute;
            }
            values[minutes] = -WHOLE * cost * minutes;
        }

        /** The first of the minutes with the greatest value. */
        int greatest() {
            int found = 0;
            for (int minute = 1; minute <= minutes; minute++) {
                if (values[minute] > values[found]) {
                    found = minute;
                }
            }
            return found;
        }

        boolean restsBy(int slack, int[] row) {
            weigh(row);
            long least = values[greatest()] - WHOLE * slack;
            for (int minute = 0; minute < minutes; minute++) {
                if (row[minute] > 0 && values[minute] < least) {
                    return false;
                }
                if (row[minute] == TEN) {
                    return true;
                }
            }
            return values[minutes] >= least;
        }

        /** Finds all rows at rest; chances told do not matter, so what was found by a slack stands. */
        void search(int slack) {
            if (slack == searchedBy) {
                return;
            }
            int many = 1;
            for (int minute = 0; minute < minutes && minute < MOST_SEARCHED; minute++) {
                many *= CHANCES;
            }
            restCount = 0;
            for (int number = 0; number < many; number++) {
                int digits = number;
                for (int minute = minutes - 1; minute >= 0; minute--) {
                    tried[minute] = digits % CHANCES;
                    digits /= CHANCES;
                }
                if (restsBy(slack, tried)) {
                    rests[restCount] = number;
                    restCount++;
                }
            }
            searchedBy = slack;
        }

        /**
         * Minutes behind the one asked change nothing by it, so that minute 0 with its own chance is
         * as good as they are, and comes first.
         */
        int likeliest(int last) {
            System.arraycopy(chances, 0, tried, 0, minutes);
            long most = -1;
            int found = 0;
            for (int minute = 0; minute <= last; minute++) {
                for (int chance = 0; chance <= TEN; chance++) {
                    tried[minute] = chance;
                    follow(people, tried, last + 1);
                    long taken = takenUpTo(last);
                    if (taken > most) {
                        most = taken;
                        found = minute * CHANCES + chance;
                    }
                }
                tried[minute] = chances[minute];
            }
            return found;
        }
    }

    /** A morning told: the minute each came. */
    private static final class Told {
        Village village = null;
        int thing = 0;
        final int[] minutes = new int[MOST_PEOPLE];
        private final int[] minutesAhead = new int[MOST_PEOPLE];
        private final int[] comers = new int[LAST_MINUTE + 1];
        /** The rank that one would have by each minute. */
        private final int[] ranks = new int[LAST_MINUTE + 1];

        boolean began() {
            return village != null;
        }

        void begin(Village newVillage, int newThing) {
            village = newVillage;
            thing = newThing;
            Arrays.fill(minutes, NONE);
        }

        private void rankBesideOthers(int person) {
            Arrays.fill(comers, 0);
            Arrays.fill(ranks, 1);
            for (int other = 0; other < village.people; other++) {
                int minute = minutes[other];
                if (other != person && isOf(minute, comers.length)) {
                    comers[minute]++;
                    ranks[minute] += other < person ? 1 : 0;
                }
            }
            int ahead = 0;
            for (int minute = 0; minute <= LAST_MINUTE; minute++) {
                ranks[minute] += ahead;
                ahead += comers[minute];
            }
        }

        private boolean hasBy(int rank) {
            int nth = village.ofThing(thing, NTH);
            return rank >= nth && rank < nth + village.ofThing(thing, PLACES);
        }

        /** What one gains by a minute (or by not coming), once its ranks beside the others stand. */
        private int gainBy(int person, int minute) {
            int cost = village.ofPerson(person, COST);
            if (!isOf(minute, ranks.length)) {
                return -cost * LAST_MINUTE;
            }
            return (hasBy(ranks[minute]) ? village.worthIn(thing, minute) : 0) - cost * minute;
        }

        private int bestBesideOthers(int person) {
            int found = 0;
            int most = gainBy(person, 0);
            for (int minute = 1; minute <= LAST_MINUTE; minute++) {
                int gain = gainBy(person, minute);
                if (gain > most) {
                    most = gain;
                    found = minute;
                }
            }
            return gainBy(person, NONE) > most ? NONE : found;
        }

        int rankOf(int person) {
            rankBesideOthers(person);
            return isOf(minutes[person], ranks.length) ? ranks[minutes[person]] : NONE;
        }

        int gainOf(int person) {
            rankBesideOthers(person);
            return gainBy(person, minutes[person]);
        }

        int answerOf(int person) {
            rankBesideOthers(person);
            return bestBesideOthers(person);
        }

        int regretOf(int person) {
            int answer = answerOf(person);
            return gainBy(person, answer) - gainBy(person, minutes[person]);
        }

        /** Best answers by turns: how many changes; NONE, and all as it was, in a ring. */
        int takeTurns() {
            System.arraycopy(minutes, 0, minutesAhead, 0, MOST_PEOPLE);
            int changes = 0;
            // A round without a change ends it, so there are no more rounds than changes, and one.
            for (int round = 0; round <= TURNS_OF_A_RING; round++) {
                int ahead = changes;
                for (int person = 0; person < village.people && changes <= TURNS_OF_A_RING; person++) {
                    if (regretOf(person) > 0) {
                        minutes[person] = answerOf(person);
                        changes++;
                    }
                }
                if (changes > TURNS_OF_A_RING) {
                    break;
                }
                if (changes == ahead) {
                    return changes;
                }
            }
            System.arraycopy(minutesAhead, 0, minutes, 0, MOST_PEOPLE);
            return NONE;
        }

        int gainBySwap(int one, int other) {
            int plain = gainOf(one) + gainOf(other);
            exchange(one, other);
            int swapped = gainOf(one) + gainOf(other);
            exchange(one, other);
            return swapped - plain;
        }

        private void exchange(int one, int other) {
            int minute = minutes[one];
            minutes[one] = minutes[other];
            minutes[other] = minute;
        }

        /** The minute in which most came; NONE: nobody did. */
        int fullest() {
            rankBesideOthers(NONE);
            int found = NONE;
            int most = 0;
            for (int minute = 0; minute <= LAST_MINUTE; minute++) {
                if (comers[minute] > most) {
                    most = comers[minute];
                    found = minute;
                }
            }
            return found;
        }

        int firstWithPlace(int person) {
            rankBesideOthers(person);
            for (int minute = 0; minute <= LAST_MINUTE; minute++) {
                if (hasBy(ranks[minute])) {
                    return minute;
                }
            }
            return NONE;
        }
    }

    /** All things in a row: who comes too early to one goes on to the next. */
    private static final class Tour {
        final int[] thingOf = new int[MOST_PEOPLE];
        final int[] minuteOf = new int[MOST_PEOPLE];
        final int[] visited = new int[MOST_PEOPLE];
        private int[] coming = new int[MOST_PEOPLE];
        private int[] goingOn = new int[MOST_PEOPLE];

        void walk(Told told, int between) {
            Arrays.fill(thingOf, NONE);
            Arrays.fill(minuteOf, NONE);
            Arrays.fill(visited, 0);
            System.arraycopy(told.minutes, 0, coming, 0, MOST_PEOPLE);
            for (int thing = 0; thing < told.village.things; thing++) {
                visit(told.village, thing, between);
                int[] spent = coming;
                coming = goingOn;
                goingOn = spent;
            }
        }

        private void visit(Village village, int thing, int between) {
            int nth = village.ofThing(thing, NTH);
            int behind = nth + village.ofThing(thing, PLACES);
            Arrays.fill(goingOn, NONE);
            for (int person = 0; person < village.people; person++) {
                if (coming[person] == NONE) {
                    continue;
                }
                visited[person]++;
                int rank = rankOf(person, village.people);
                if (rank < nth) {
                    goingOn[person] = coming[person] + between;
                } else if (rank < behind) {
                    thingOf[person] = thing;
                    minuteOf[person] = coming[person];
                }
            }
        }

        private int rankOf(int person, int people) {
            int rank = 1;
            for (int other = 0; other < people; other++) {
                boolean comes = coming[other] != NONE;
                boolean sooner = coming[other] < coming[person] || coming[other] == coming[person] && other < person;
                rank += comes && sooner ? 1 : 0;
            }
            return rank;
        }
    }
}
