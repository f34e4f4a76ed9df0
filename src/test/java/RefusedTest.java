import java.util.function.Supplier;
import java.util.function.ToLongFunction;

/**
 * What is refused answers as told and changes nothing: each refusal that a promise names, one beside each bound, and
 * the furthest numbers; behind it all else answers as it would have without it.
 */
public final class RefusedTest {
    private static final int NONE = Check.NONE;
    private static final int HIDDEN = Check.HIDDEN;
    private static final int NO = 0;
    private static final int LOWEST = Integer.MIN_VALUE;
    private static final int HIGHEST = Integer.MAX_VALUE;
    private static final int PEOPLE = 5;

    /** A call with one number that is varied. */
    private interface Asked {
        long of(ThirdComer x, int number);
    }

    public static void main(String[] args) {
        tape();
        texts();
        textsWhenThereAreSoMany();
        villages();
        ways();
        start();
        minutes();
        whoAndAbout();
        oddsAndLaw();
        overSeeds();
        pairs();
        ofSorts();
        noWays();
        neverAgreed();
        noneBegan();
        row();
        minutesOfTheRow();
        found();
        noRow();
        tell();
        told();
        noneTold();
        images();
        between();
        counts();
        fullVillage();
        Check.finish();
    }

    // ---- objects that stand somewhere

    /** Two villages, two ways, a tape, a row, a morning in its third minute, an image, a morning told. */
    private static ThirdComer busy() {
        ThirdComer x = Check.with("tn3p2w90f2;tn2w7;sm3c1d2;sm2", "tn1;sm3d0;s", "y:h+g>1?4;y:t>5?2;y:1", "y:3");
        Check.feed(x, "t;sm9 ");
        x.way(1, 1);
        x.way(4, 5);
        x.between(4);
        x.row(3, 2, 100, 10, 1, 3);
        x.chance(1, 7);
        x.start(0, 0, 1, 11L);
        x.minutes(1);
        x.image();
        x.minutes(2);
        x.tell(0, 0);
        x.came(0, 4);
        x.came(1, 4);
        x.came(3, 60);
        return x;
    }

    /** All four villages and all six ways, and no place on the tape: a village that is as good as any other. */
    private static ThirdComer full() {
        ThirdComer x = Check.with("tn1;sm2", "tn2;sm3", "tn3;sm4", "tn4;sm5", "y:1", "y:2", "y:3", "y:4", "y:5", "y:6");
        fill(x, "t;s");
        x.start(3, 0, 0, 5L);
        x.minutes(2);
        return x;
    }

    private static ThirdComer fullWithWay() {
        ThirdComer x = full();
        x.end(0);
        fill(x, "y:10");
        return x;
    }

    /** A text with blanks behind it till nothing more comes to the tape. */
    private static void fill(ThirdComer x, String text) {
        Check.feed(x, text + " ".repeat(160 - text.length()));
    }

    private static ThirdComer over() {
        ThirdComer x = busy();
        x.minutes(61);
        return x;
    }

    /** As much as a village can have. */
    private static ThirdComer large() {
        ThirdComer x = Check.with("tn1;tn2;tn3;tn4;sm9;sm7;s;s;s;s", "y:1");
        x.start(0, 3, 0, 3L);
        x.minutes(1);
        x.tell(0, 3);
        return x;
    }

    // ---- how refusals are put

    private static void no(String call, long due, Supplier<ThirdComer> made, ToLongFunction<ThirdComer> asked) {
        Twin.refused(call, due, made, asked);
    }

    private static void each(String call, long due, Supplier<ThirdComer> made, int[] bad, Asked asked) {
        for (int number : bad) {
            no(call + " " + number, due, made, x -> asked.of(x, number));
        }
    }

    /** One below, one above, and the furthest numbers. */
    private static int[] beside(int least, int most) {
        return new int[] {least - 1, most + 1, LOWEST, HIGHEST};
    }

    /** The same where NONE has a meaning of its own. */
    private static int[] besideNone(int most) {
        return new int[] {NONE - 1, most + 1, LOWEST, HIGHEST};
    }

    private static long bit(boolean answer) {
        return answer ? 1 : 0;
    }

    // ---- texts

    private static void tape() {
        each("2: 161 bytes, by word", NONE, RefusedTest::full, new int[] {0, 1, 2, 3, 4}, (x, i) -> one(x, i));
        no("2: twenty more than 160", NONE, RefusedTest::full, x -> x.feed(-1, -1, -1, -1, -1));
        no("2: 161 bytes, of which 5 have room", NONE, () -> shortOfFull(5), x -> x.feed(-1, 0x00FF00FF, 0, 0, 0));
        no("2: 161 bytes, of which 19 have room", NONE, () -> shortOfFull(19), x -> x.feed(-1, -1, -1, -1, -1));
        no("2: 161 bytes, of which 1 has room", NONE, () -> shortOfFull(1), x -> x.feed(0x20000020, 0, 0, 0, 0));
        each("3: end", NO, RefusedTest::busy, beside(0, 6), (x, n) -> bit(x.end(n)));
        each("3: end of a full tape", NO, RefusedTest::full, beside(0, 160), (x, n) -> bit(x.end(n)));
        each("3: end of an empty tape", NO, ThirdComer::new, beside(0, 0), (x, n) -> bit(x.end(n)));
        each("4: fault, no such sort", -2, RefusedTest::busy, beside(0, 1), (x, n) -> x.fault(n));
        each("4: fault of an empty tape, no such sort", -2, ThirdComer::new, beside(0, 1), (x, n) -> x.fault(n));
    }

    private static ThirdComer shortOfFull(int room) {
        ThirdComer x = full();
        x.end(160 - room);
        return x;
    }

    private static long one(ThirdComer x, int word) {
        return x.feed(word == 0 ? 1 << 24 : 0, word == 1 ? 1 << 16 : 0, word == 2 ? 1 << 8 : 0, word == 3 ? 1 : 0,
            word == 4 ? 255 << 24 : 0);
    }

    private static void texts() {
        each("5: text, no such sort", NONE, RefusedTest::busy, beside(0, 1), (x, n) -> x.text(n));
        no("5: a fault as a way", NONE, RefusedTest::busy, x -> x.text(1));
        no("5: a fault as a village", NONE, () -> withTape("y:1"), x -> x.text(0));
        no("5: a village without a sort", NONE, () -> withTape("tn1p1w1f1"), x -> x.text(0));
        no("5: a village without a thing", NONE, () -> withTape("sm2;sm3"), x -> x.text(0));
        no("5: a village with a fault at its very end", NONE, () -> withTape("tn2;sm4d3k0;"), x -> x.text(0));
        no("5: a village of 21", NONE, () -> withTape("t;sm9;sm9;sm3"), x -> x.text(0));
        no("5: a way with a fault at its very end", NONE, () -> withTape("y:10;y:10;"), x -> x.text(1));
        no("5: a way too deep", NONE, () -> withTape("y:[[[[[[[1]]]]]]]"), x -> x.text(1));
        each("5: an empty tape", NONE, ThirdComer::new, new int[] {0, 1}, (x, n) -> x.text(n));
        each("5: an empty tape behind texts", NONE, () -> withTape(""), new int[] {0, 1}, (x, n) -> x.text(n));
    }

    private static ThirdComer withTape(String text) {
        ThirdComer x = busy();
        x.end(0);
        Check.feed(x, text);
        return x;
    }

    private static void textsWhenThereAreSoMany() {
        no("5: a fifth village", NONE, RefusedTest::full, x -> x.text(0));
        no("5: a seventh way", NONE, RefusedTest::fullWithWay, x -> x.text(1));
    }

    private static void villages() {
        each("6: village", Twin.THROWS, RefusedTest::busy, beside(0, 1), (x, n) -> x.village(n, 0));
        each("6: village, what", Twin.THROWS, RefusedTest::busy, beside(0, 2), (x, n) -> x.village(0, n));
        each("6: village of four", Twin.THROWS, RefusedTest::full, beside(0, 3), (x, n) -> x.village(n, 0));
        each("6: village of none", Twin.THROWS, ThirdComer::new, new int[] {-1, 0, 1}, (x, n) -> x.village(n, 0));
        each("7: thing, village", NONE, RefusedTest::busy, beside(0, 1), (x, n) -> x.thing(n, 0, 0));
        each("7: thing", NONE, RefusedTest::busy, beside(0, 1), (x, n) -> x.thing(0, n, 0));
        each("7: thing, what", NONE, RefusedTest::busy, beside(0, 3), (x, n) -> x.thing(0, 0, n));
        no("7: a thing of the other village alone", NONE, RefusedTest::busy, x -> x.thing(1, 1, 0));
        no("7: thing of none", NONE, ThirdComer::new, x -> x.thing(0, 0, 0));
        each("8: sort, village", NONE, RefusedTest::busy, beside(0, 1), (x, n) -> x.sort(n, 0, 0));
        each("8: sort", NONE, RefusedTest::busy, beside(0, 1), (x, n) -> x.sort(0, n, 0));
        each("8: sort, what", NONE, RefusedTest::busy, beside(0, 3), (x, n) -> x.sort(0, 0, n));
        no("8: sort of none", NONE, ThirdComer::new, x -> x.sort(0, 0, 0));
        each("9: of, village", NONE, RefusedTest::busy, beside(0, 1), (x, n) -> x.of(n, 0));
        each("9: of", NONE, RefusedTest::busy, beside(0, PEOPLE - 1), (x, n) -> x.of(0, n));
        no("9: of none", NONE, ThirdComer::new, x -> x.of(0, 0));
    }

    private static void ways() {
        each("10: way, sort", NO, RefusedTest::busy, beside(0, 5), (x, n) -> bit(x.way(n, 0)));
        each("10: way", NO, RefusedTest::busy, beside(0, 5), (x, n) -> bit(x.way(0, n)));
        no("10: neither", NO, RefusedTest::busy, x -> bit(x.way(6, 6)));
        each("43: wayOf", NONE, RefusedTest::busy, beside(0, 5), (x, n) -> x.wayOf(n));
        each("43: wayOf of a new one", NONE, ThirdComer::new, beside(0, 5), (x, n) -> x.wayOf(n));
    }

    // ---- the morning

    private static void start() {
        each("11: start, village", NO, RefusedTest::busy, beside(0, 1), (x, n) -> bit(x.start(n, 0, 0, 1L)));
        each("11: start, thing", NO, RefusedTest::busy, beside(0, 1), (x, n) -> bit(x.start(0, n, 0, 1L)));
        each("11: start, look", NO, RefusedTest::busy, beside(0, 1), (x, n) -> bit(x.start(0, 0, n, 1L)));
        no("11: a thing of the other village alone", NO, RefusedTest::busy, x -> bit(x.start(1, 1, 0, 1L)));
        no("11: start of none", NO, ThirdComer::new, x -> bit(x.start(0, 0, 0, 1L)));
        no("11: a fifth village", NO, RefusedTest::full, x -> bit(x.start(4, 0, 0, 1L)));
    }

    private static void minutes() {
        each("12: minutes", NONE, RefusedTest::busy, beside(1, 61), (x, n) -> x.minutes(n));
        each("12: minutes behind the end", NONE, RefusedTest::over, beside(1, 61), (x, n) -> x.minutes(n));
        each("12: none began", NONE, ThirdComer::new, new int[] {0, 1, 61, 62}, (x, n) -> x.minutes(n));
    }

    private static void whoAndAbout() {
        each("13: who", HIDDEN, RefusedTest::busy, beside(0, PEOPLE - 1), (x, n) -> x.who(n, 0));
        each("13: who, what", HIDDEN, RefusedTest::busy, beside(0, 5), (x, n) -> x.who(0, n));
        each("14: about", HIDDEN, RefusedTest::busy, beside(0, 7), (x, n) -> x.about(n));
    }

    // ---- over seeds

    private static void oddsAndLaw() {
        each("15: odds", HIDDEN, RefusedTest::busy, beside(0, PEOPLE - 1), (x, n) -> x.odds(n, 2, 0));
        each("15: odds, n", HIDDEN, RefusedTest::busy, beside(1, 40), (x, n) -> x.odds(0, n, 0));
        each("15: odds, n of SUM", HIDDEN, RefusedTest::busy, beside(1, 40), (x, n) -> x.odds(0, n, 1));
        each("15: odds, what", HIDDEN, RefusedTest::busy, beside(0, 1), (x, n) -> x.odds(0, 2, n));
        each("16: law", NONE, RefusedTest::busy, new int[] {0, 10, -2, LOWEST, HIGHEST}, (x, n) -> x.law(n, 2));
        each("16: law, n", NONE, RefusedTest::busy, beside(1, 40), (x, n) -> x.law(3, n));
        each("16: law of its own, n", NONE, RefusedTest::busy, beside(1, 40), (x, n) -> x.law(NONE, n));
    }

    private static void overSeeds() {
        each("17: which", NONE, RefusedTest::busy, beside(1, 40), (x, n) -> x.which(n));
        each("18: quiet", NONE, RefusedTest::busy, beside(1, 40), (x, n) -> x.quiet(n));
        each("20: price", NONE, RefusedTest::busy, beside(0, PEOPLE - 1), (x, n) -> x.price(n, 2));
        each("20: price, n", NONE, RefusedTest::busy, beside(1, 40), (x, n) -> x.price(0, n));
        each("36: ends", NONE, RefusedTest::busy, besideNone(60), (x, n) -> x.ends(n, 2));
        each("36: ends, n", NONE, RefusedTest::busy, beside(1, 40), (x, n) -> x.ends(0, n));
        each("36: never, n", NONE, RefusedTest::busy, beside(1, 40), (x, n) -> x.ends(NONE, n));
        each("39: seen", HIDDEN, RefusedTest::busy, beside(1, 40), (x, n) -> x.seen(n));
        each("42: agree", NONE, RefusedTest::busy, beside(1, 40), (x, n) -> x.agree(n));
    }

    private static void pairs() {
        int[] people = beside(0, PEOPLE - 1);
        int[] all = {0, 1, 2, 3, 4};
        each("19: pay, person", HIDDEN, RefusedTest::busy, people, (x, n) -> x.pay(n, 1, 2));
        each("19: pay, other", HIDDEN, RefusedTest::busy, people, (x, n) -> x.pay(1, n, 2));
        each("19: pay, alike", HIDDEN, RefusedTest::busy, all, (x, n) -> x.pay(n, n, 2));
        each("19: pay, n", HIDDEN, RefusedTest::busy, beside(1, 40), (x, n) -> x.pay(0, 1, n));
        each("37: both, one", NONE, RefusedTest::busy, people, (x, n) -> x.both(n, 1, 2));
        each("37: both, other", NONE, RefusedTest::busy, people, (x, n) -> x.both(1, n, 2));
        each("37: both, alike", NONE, RefusedTest::busy, all, (x, n) -> x.both(n, n, 2));
        each("37: both, n", NONE, RefusedTest::busy, beside(1, 40), (x, n) -> x.both(0, 1, n));
        each("38: kin, one", HIDDEN, RefusedTest::busy, people, (x, n) -> x.kin(n, 1, 2));
        each("38: kin, other", HIDDEN, RefusedTest::busy, people, (x, n) -> x.kin(1, n, 2));
        each("38: kin, alike", HIDDEN, RefusedTest::busy, all, (x, n) -> x.kin(n, n, 2));
        each("38: kin, n", HIDDEN, RefusedTest::busy, beside(1, 40), (x, n) -> x.kin(0, 1, n));
    }

    private static void ofSorts() {
        each("21: strangers", HIDDEN, RefusedTest::busy, beside(0, 1), (x, n) -> x.strangers(n, 2));
        each("21: strangers, n", HIDDEN, RefusedTest::busy, beside(1, 40), (x, n) -> x.strangers(0, n));
        each("40: gains", HIDDEN, RefusedTest::busy, beside(0, 1), (x, n) -> x.gains(n, 2));
        each("40: gains, n", HIDDEN, RefusedTest::busy, beside(1, 40), (x, n) -> x.gains(0, n));
        each("41: better", NONE, RefusedTest::busy, beside(0, 1), (x, n) -> x.better(n, 2));
        each("41: better, n", NONE, RefusedTest::busy, beside(1, 40), (x, n) -> x.better(0, n));
        int[] ofVillages = {2, 3, 4, 5};
        each("21: a sort there could be", HIDDEN, RefusedTest::busy, ofVillages, (x, n) -> x.strangers(n, 2));
        each("40: a sort there could be", HIDDEN, RefusedTest::busy, ofVillages, (x, n) -> x.gains(n, 2));
        each("41: a sort there could be", NONE, RefusedTest::busy, ofVillages, (x, n) -> x.better(n, 2));
    }

    private static ThirdComer begunWithoutWays() {
        ThirdComer x = Check.with("tn2p2w9;sm3c1k0;sm2");
        x.way(1, 3);
        x.start(0, 0, 0, 1L);
        return x;
    }

    private static void noWays() {
        no("41: no ways", NONE, RefusedTest::begunWithoutWays, x -> x.better(0, 2));
        no("41: no ways", NONE, RefusedTest::begunWithoutWays, x -> x.better(1, 2));
        no("42: no ways", NONE, RefusedTest::begunWithoutWays, x -> x.agree(2));
    }

    private static ThirdComer atOdds() {
        ThirdComer x = Check.with("tn2p2w36f1;sm1d0c2;sm2d0c1", "y:10", "y:t>2?10;y:0", "y:t=1?10;y:0");
        x.way(0, 2);
        x.way(1, 4);
        x.way(5, 3);
        x.start(0, 0, 0, 0L);
        x.minutes(1);
        return x;
    }

    private static void neverAgreed() {
        no("42: more than 30", NONE, RefusedTest::atOdds, x -> x.agree(1));
    }

    /** Texts and a morning told, but no morning. */
    private static ThirdComer unbegun() {
        ThirdComer x = Check.with("tn2;sm3;sm2", "y:4", "y:10");
        x.tell(0, 0);
        x.row(2, 1, 10, 0, 1, 2);
        return x;
    }

    private static void noneBegan() {
        Supplier<ThirdComer> made = RefusedTest::unbegun;
        no("12: none began", NONE, made, x -> x.minutes(1));
        each("13: none began", HIDDEN, made, new int[] {0, 1, 2, 3, 4, 5}, (x, n) -> x.who(0, n));
        each("14: none began", HIDDEN, made, new int[] {0, 1, 2, 3, 4, 5, 6, 7}, (x, n) -> x.about(n));
        each("15: none began", HIDDEN, made, new int[] {0, 1}, (x, n) -> x.odds(0, 1, n));
        each("16: none began", NONE, made, new int[] {NONE, 1, 9}, (x, n) -> x.law(n, 1));
        no("17: none began", NONE, made, x -> x.which(1));
        no("18: none began", NONE, made, x -> x.quiet(1));
        no("19: none began", HIDDEN, made, x -> x.pay(0, 1, 1));
        no("20: none began", NONE, made, x -> x.price(0, 1));
        no("21: none began", HIDDEN, made, x -> x.strangers(0, 1));
        each("36: none began", NONE, made, new int[] {NONE, 0, 60}, (x, n) -> x.ends(n, 1));
        no("37: none began", NONE, made, x -> x.both(0, 1, 1));
        no("38: none began", HIDDEN, made, x -> x.kin(0, 1, 1));
        no("39: none began", HIDDEN, made, x -> x.seen(1));
        no("40: none began", HIDDEN, made, x -> x.gains(0, 1));
        no("41: none began", NONE, made, x -> x.better(0, 1));
        no("42: none began", NONE, made, x -> x.agree(1));
        no("50: none began", NONE, made, x -> x.image());
        no("51: no image", NONE, made, x -> x.back());
    }

    // ---- the row

    private static void row() {
        Supplier<ThirdComer> made = RefusedTest::busy;
        each("22: row, m", NO, made, beside(2, 9), (x, n) -> bit(x.row(n, 1, 10, 1, 1, 2)));
        each("22: row, nth", NO, made, beside(1, 9), (x, n) -> bit(x.row(9, n, 10, 1, 1, 2)));
        int[] many = {2, 3, 4, 5, 6, 7, 8};
        each("22: row, nth above m", NO, made, many, (x, m) -> bit(x.row(m, m + 1, 10, 1, 1, 2)));
        each("22: row, worth", NO, made, beside(0, 999), (x, n) -> bit(x.row(2, 1, n, 1, 1, 2)));
        each("22: row, fall", NO, made, beside(0, 99), (x, n) -> bit(x.row(2, 1, 10, n, 1, 2)));
        each("22: row, cost", NO, made, beside(0, 99), (x, n) -> bit(x.row(2, 1, 10, 1, n, 2)));
        each("22: row, minutes", NO, made, beside(1, 12), (x, n) -> bit(x.row(2, 1, 10, 1, 1, n)));
        no("22: no row is made of it", NO, ThirdComer::new, x -> bit(x.row(1, 1, 10, 1, 1, 2)));
        each("23: chance, minute", NO, made, beside(0, 2), (x, n) -> bit(x.chance(n, 9)));
        each("23: chance", NO, made, beside(0, 10), (x, n) -> bit(x.chance(0, n)));
        no("23: a minute that another row could have", NO, made, x -> bit(x.chance(11, 9)));
    }

    private static void minutesOfTheRow() {
        Supplier<ThirdComer> made = RefusedTest::busy;
        each("24: taken", NONE, made, besideNone(2), (x, n) -> x.taken(n));
        each("25: value", Twin.THROWS, made, beside(0, 3), (x, n) -> x.value(n));
        each("27: rest", NONE, made, beside(0, 99), (x, n) -> x.rest(n));
        each("45: gone", NONE, made, beside(0, 3), (x, n) -> x.gone(n));
        each("46: like", NONE, made, beside(0, 2), (x, n) -> x.like(n));
    }

    private static ThirdComer ofFourMinutes() {
        ThirdComer x = busy();
        x.row(2, 1, 10, 0, 1, 4);
        return x;
    }

    private static void found() {
        Supplier<ThirdComer> made = RefusedTest::busy;
        each("28: found, slack", NONE, made, beside(0, 99), (x, n) -> x.found(n, NONE));
        each("28: found, slack of the first", NONE, made, beside(0, 99), (x, n) -> x.found(n, 0));
        each("28: found, i", NONE, made, new int[] {-2, 1331, LOWEST, HIGHEST}, (x, n) -> x.found(99, n));
        no("28: found, i behind the last", NONE, made, x -> x.found(20, busy().found(20, NONE)));
        each("28: more than 3 minutes", NONE, RefusedTest::ofFourMinutes, new int[] {NONE, 0}, (x, n) -> x.found(0, n));
    }

    private static void noRow() {
        Supplier<ThirdComer> made = () -> Check.with("tn2;sm3;sm2", "y:4");
        no("23: no row", NO, made, x -> bit(x.chance(0, 5)));
        each("24: no row", NONE, made, new int[] {NONE, 0}, (x, n) -> x.taken(n));
        each("25: no row", Twin.THROWS, made, new int[] {NONE, 0, 1}, (x, n) -> x.value(n));
        no("26: no row", NONE, made, x -> x.best());
        no("27: no row", NONE, made, x -> x.rest(0));
        each("28: no row", NONE, made, new int[] {NONE, 0}, (x, n) -> x.found(0, n));
        no("44: no row", NONE, made, x -> x.mean());
        no("45: no row", NONE, made, x -> x.gone(0));
        no("46: no row", NONE, made, x -> x.like(0));
    }

    // ---- the morning told

    private static void tell() {
        each("29: tell, village", NO, RefusedTest::busy, beside(0, 1), (x, n) -> bit(x.tell(n, 0)));
        each("29: tell, thing", NO, RefusedTest::busy, beside(0, 1), (x, n) -> bit(x.tell(0, n)));
        no("29: a thing of the other village alone", NO, RefusedTest::busy, x -> bit(x.tell(1, 1)));
        no("29: tell of none", NO, ThirdComer::new, x -> bit(x.tell(0, 0)));
        each("30: came", NO, RefusedTest::busy, beside(0, PEOPLE - 1), (x, n) -> bit(x.came(n, 3)));
        each("30: came, minute", NO, RefusedTest::busy, besideNone(60), (x, n) -> bit(x.came(0, n)));
    }

    private static void told() {
        Supplier<ThirdComer> made = RefusedTest::busy;
        int[] people = beside(0, PEOPLE - 1);
        each("31: told", HIDDEN, made, people, (x, n) -> x.told(n, 0));
        each("31: told, what", HIDDEN, made, beside(0, 4), (x, n) -> x.told(0, n));
        each("35: round", HIDDEN, made, people, (x, n) -> x.round(n, 0));
        each("35: round, what", HIDDEN, made, beside(0, 2), (x, n) -> x.round(0, n));
        each("47: swap, one", HIDDEN, made, people, (x, n) -> x.swap(n, 1));
        each("47: swap, other", HIDDEN, made, people, (x, n) -> x.swap(1, n));
        each("47: swap, alike", HIDDEN, made, new int[] {0, 1, 2, 3, 4}, (x, n) -> x.swap(n, n));
        each("49: free", NONE, made, people, (x, n) -> x.free(n));
        no("33: a ring", NONE, RefusedTest::ring, x -> x.settle());
        no("48: nobody came", NONE, RefusedTest::large, x -> x.crowd());
    }

    private static ThirdComer ring() {
        ThirdComer x = Check.with("tn2w17f3;sc4;s", "y:1");
        x.tell(0, 0);
        x.came(0, 0);
        x.came(1, 3);
        return x;
    }

    private static void noneTold() {
        Supplier<ThirdComer> made = () -> {
            ThirdComer x = Check.with("tn2;sm3;sm2", "y:4");
            x.start(0, 0, 0, 1L);
            return x;
        };
        each("30: none told", NO, made, new int[] {NONE, 0, 60}, (x, n) -> bit(x.came(0, n)));
        each("31: none told", HIDDEN, made, new int[] {0, 1, 2, 3, 4}, (x, n) -> x.told(0, n));
        no("32: none told", NONE, made, x -> x.ill());
        no("33: none told", NONE, made, x -> x.settle());
        each("35: none told", HIDDEN, made, new int[] {0, 1, 2}, (x, n) -> x.round(0, n));
        no("47: none told", HIDDEN, made, x -> x.swap(0, 1));
        no("48: none told", NONE, made, x -> x.crowd());
        no("49: none told", NONE, made, x -> x.free(0));
    }

    // ---- the rest

    private static void images() {
        no("50: none began", NONE, ThirdComer::new, x -> x.image());
        no("51: no image", NONE, ThirdComer::new, x -> x.back());
        no("51: no image of a morning that began", NONE, RefusedTest::large, x -> x.back());
    }

    private static void between() {
        each("34: between", NO, RefusedTest::busy, beside(0, 9), (x, n) -> bit(x.between(n)));
        each("34: between at first", NO, ThirdComer::new, beside(0, 9), (x, n) -> bit(x.between(n)));
    }

    private static void counts() {
        each("52: count", HIDDEN, RefusedTest::busy, beside(0, 6), (x, n) -> x.count(n));
        each("52: count of a new one", HIDDEN, ThirdComer::new, beside(0, 6), (x, n) -> x.count(n));
    }

    /** Behind the twentieth, the sixth sort, the fourth thing. */
    private static void fullVillage() {
        Supplier<ThirdComer> made = RefusedTest::large;
        no("7: a fifth thing", NONE, made, x -> x.thing(0, 4, 0));
        no("8: a seventh sort", NONE, made, x -> x.sort(0, 6, 0));
        no("9: a 21st", NONE, made, x -> x.of(0, 20));
        no("11: a fifth thing", NO, made, x -> bit(x.start(0, 4, 0, 1L)));
        no("13: a 21st", HIDDEN, made, x -> x.who(20, 0));
        no("15: a 21st", HIDDEN, made, x -> x.odds(20, 1, 0));
        no("19: a 21st", HIDDEN, made, x -> x.pay(20, 0, 1));
        no("19: a 21st", HIDDEN, made, x -> x.pay(0, 20, 1));
        no("20: a 21st", NONE, made, x -> x.price(20, 1));
        no("21: a seventh sort", HIDDEN, made, x -> x.strangers(6, 1));
        no("29: a fifth thing", NO, made, x -> bit(x.tell(0, 4)));
        no("30: a 21st", NO, made, x -> bit(x.came(20, 1)));
        no("31: a 21st", HIDDEN, made, x -> x.told(20, 0));
        no("35: a 21st", HIDDEN, made, x -> x.round(20, 0));
        no("37: a 21st", NONE, made, x -> x.both(0, 20, 1));
        no("38: a 21st", HIDDEN, made, x -> x.kin(20, 0, 1));
        no("40: a seventh sort", HIDDEN, made, x -> x.gains(6, 1));
        no("41: a seventh sort", NONE, made, x -> x.better(6, 1));
        no("47: a 21st", HIDDEN, made, x -> x.swap(20, 0));
        no("49: a 21st", NONE, made, x -> x.free(20));
    }
}
