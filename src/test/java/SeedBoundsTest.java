/**
 * Every bound that the document names of mornings over seeds (parts 2 and 5, promises 15 to 21 and 36 to 42), one test
 * for each: at the bound, one below and one above it.
 */
public final class SeedBoundsTest {
    private static final int NONE = Check.NONE;
    private static final int HIDDEN = Check.HIDDEN;
    private static final int HAD = 0;
    private static final int SUM = 1;

    public static void main(String[] args) {
        seedsOneToForty();
        questionsByEachNumberOfSeeds();
        lateWithoutALastPlace();
        endsInEachMinute();
        lawsOneToNine();
        lawOfItsOwn();
        lawsWithPlaces();
        whichTheLowest();
        quietOfEachLaw();
        quietWhenAllGoAtOnce();
        payMoreAndLess();
        payWithoutADraw();
        priceNoLessThanNothing();
        strangersMoreAndLess();
        bothOfAll();
        kinMoreAndLess();
        seenMoreAndLess();
        gainsOfTheMost();
        oneOfTwenty();
        betterOfOneAndOfSix();
        betterTheLowest();
        betterBesideTheOthers();
        agreedAtOnce();
        agreedByTurns();
        Check.finish();
    }

    private static ThirdComer begun(String... texts) {
        ThirdComer x = Check.with(texts);
        Check.yes("11: start", x.start(0, 0, 0, 77L));
        return x;
    }

    private static long behind(long seed) {
        return seed * 6364136223846793005L + 1442695040888963407L;
    }

    private static int drawOf(long drawn) {
        return (int) ((drawn >>> 33) % 10);
    }

    /** Of so many seeds from 0 on: by how many the first draw is below a number. */
    private static int low(int n, int bound) {
        int many = 0;
        for (int seed = 0; seed < n; seed++) {
            many += drawOf(behind(seed)) < bound ? 1 : 0;
        }
        return many;
    }

    /** The same of the second draw. */
    private static int lowSecond(int n, int bound) {
        int many = 0;
        for (int seed = 0; seed < n; seed++) {
            many += drawOf(behind(behind(seed))) < bound ? 1 : 0;
        }
        return many;
    }

    // ---- how many seeds

    /** One who goes in minute 0 by one draw, or never: HAD, SUM, LATE and ENDS for each n, from the draws alone. */
    private static void seedsOneToForty() {
        ThirdComer x = begun("tn1;sd0", "y:t=0?5");
        for (int n = 0; n <= 41; n++) {
            boolean good = n >= 1 && n <= 40;
            int low = low(n, 5);
            Check.due("15: HAD over " + n, good ? low : HIDDEN, x.odds(0, n, HAD));
            Check.due("15: SUM over " + n, good ? 100 * low : HIDDEN, x.odds(0, n, SUM));
            Check.due("16: LATE over " + n, good ? 60 * (n - low) : NONE, x.law(NONE, n));
            Check.due("16: LAW over " + n, good ? 60 * (n - low) : NONE, x.law(1, n));
            Check.due("36: ENDS over " + n, good ? low : NONE, x.ends(0, n));
            Check.due("36: never over " + n, good ? n - low : NONE, x.ends(NONE, n));
            Check.due("40: GAINS over " + n, good ? 100 * low : HIDDEN, x.gains(0, n));
            Check.due("21: STRANGERS over " + n, good ? -60 * (n - low) : HIDDEN, x.strangers(0, n));
            Check.due("20: PRICE over " + n, good ? 0 : NONE, x.price(0, n));
        }
    }

    /** Two of them, and a second way by which both go. */
    private static void questionsByEachNumberOfSeeds() {
        ThirdComer x = begun("tn1p2;sd0;sd0", "y:t=0?5", "y:10");
        x.way(1, 1);
        for (int n = 0; n <= 41; n++) {
            boolean good = n >= 1 && n <= 40;
            int low = low(n, 5);
            // The second goes at once always; so the first has a place whenever it goes, and the second always.
            Check.due("37: BOTH over " + n, good ? low : NONE, x.both(0, 1, n));
            Check.due("19: PAY over " + n, good ? 0 : HIDDEN, x.pay(1, 0, n));
            Check.due("38: KIN over " + n, good ? 100 * (n - low) : HIDDEN, x.kin(0, 1, n));
            Check.due("39: SEEN over " + n, good ? 0 : HIDDEN, x.seen(n));
            Check.due("41: BETTER over " + n, !good ? NONE : low == n ? 0 : 1, x.better(0, n));
            Check.due("17: WHICH over " + n, good ? 1 : NONE, x.which(n));
            // Both have places by the first law, and neither ends it ahead of the other by those above it.
            Check.due("18: QUIET over " + n, !good ? NONE : low == n ? 511 : 0, x.quiet(n));
            x.way(0, 0);
            Check.due("42: AGREED over " + n, !good ? NONE : low == n ? 0 : 1, x.agree(n));
            Check.due("43: its way over " + n, !good || low == n ? 0 : 1, x.wayOf(0));
            x.way(0, 0);
        }
    }

    // ---- LATE, ENDS, LAW, WHICH, QUIET

    private static void lateWithoutALastPlace() {
        lateAndEnds("y:t=0?10", 0, 0);
        lateAndEnds("y:t=59?10", 59, 59);
        lateAndEnds("y:t=60?10", 60, 60);
        lateAndEnds("y:t=61?10", 60, NONE);
        lateAndEnds("y:0", 60, NONE);
    }

    private static void lateAndEnds(String way, int late, int minute) {
        ThirdComer x = begun("tn1;sd0", way);
        for (int n : new int[] {1, 40}) {
            Check.due("16: LATE by " + way, late * n, x.law(NONE, n));
            for (int asked : new int[] {NONE, 0, 59, 60}) {
                Check.due("36: ENDS in " + asked + " by " + way, asked == minute ? n : 0, x.ends(asked, n));
            }
        }
    }

    private static void endsInEachMinute() {
        for (int minute = 0; minute <= 60; minute++) {
            ThirdComer x = begun("tn2;sm2d0", "y:t=" + minute + "?10");
            for (int asked = -2; asked <= 61; asked++) {
                int due = asked < -1 || asked > 60 ? NONE : asked == minute ? 3 : 0;
                Check.due("36: ENDS in " + asked, due, x.ends(asked, 3));
            }
        }
    }

    /** Six who come in minutes 1 to 6. */
    private static void lawsOneToNine() {
        ThirdComer x = begun("tn4;sd1k0;sd2k0;sd3k0;sd4k0;sd5k0;sd6k0");
        for (int n : new int[] {1, 40}) {
            for (int nth = -3; nth <= 11; nth++) {
                int due = nth == NONE ? 4 * n : nth < 1 || nth > 9 ? NONE : nth <= 6 ? nth * n : 60 * n;
                Check.due("16: LAW by " + nth, due, x.law(nth, n));
            }
        }
    }

    private static void lawOfItsOwn() {
        for (int nth = 1; nth <= 9; nth++) {
            ThirdComer x = begun("tn" + nth + ";sm8d2k0;sd7k0");
            int due = nth <= 8 ? 2 : 7;
            Check.due("16: its own " + nth, 3 * due, x.law(NONE, 3));
            Check.due("16: the same told", 3 * due, x.law(nth, 3));
            Check.due("16: the first", 3 * 2, x.law(1, 3));
            Check.due("16: the ninth", 3 * 7, x.law(9, 3));
        }
    }

    private static void lawsWithPlaces() {
        for (int places = 1; places <= 3; places++) {
            ThirdComer x = begun("tn1p" + places + ";sm8k0");
            for (int nth = 1; nth <= 9; nth++) {
                boolean all = nth + places - 1 <= 8;
                Check.due("16: LAW by " + nth + " of " + places, all ? 2 : 120, x.law(nth, 2));
            }
        }
    }

    private static void whichTheLowest() {
        Check.due("17: all alike, none is had", 1, begun("tn5;s", "y:0").which(2));
        Check.due("17: all alike, all are had", 1, begun("tn5;sm9k0").which(2));
        for (int nth = 1; nth <= 9; nth++) {
            Check.due("17: " + nth + " alone", nth, begun("tn5;sm9", "y:n=" + nth + "?10").which(2));
            Check.due("17: " + nth + " and above", nth, begun("tn5;sm9", "y:n>" + (nth - 1) + "?10").which(2));
            Check.due("17: " + nth + " a minute ahead", nth,
                begun("tn5;sm9", "y:n=" + nth + "?10;y:t=1?10").which(2));
        }
        Check.due("17: the later ones are had sooner", 9, begun("tn5;sm9", "y:t=9-n?10").which(1));
    }

    private static void quietOfEachLaw() {
        for (int nth = 1; nth <= 9; nth++) {
            Check.due("18: " + nth + " alone", 1 << nth - 1, begun("tn5;sm2", "y:n=" + nth + "?10").quiet(2));
            Check.due("18: all but " + nth, 511 - (1 << nth - 1), begun("tn5;sm2", "y:n=" + nth + "?0;y:10").quiet(2));
        }
        Check.due("18: all", 511, begun("tn5;sm2", "y:10").quiet(2));
        Check.due("18: none", 0, begun("tn5;sm2", "y:0").quiet(2));
    }

    private static void quietWhenAllGoAtOnce() {
        Check.due("18: a minute late", 0, begun("tn5;sm2", "y:t=1?10").quiet(1));
        Check.due("18: one a minute late", 0, begun("tn5;s;sc1", "y:c=0|t=1?10").quiet(1));
        Check.due("18: one does not go", 0, begun("tn5;s;sc1", "y:c=0?10").quiet(1));
        Check.due("18: nobody needs to know", 511, begun("tn5;sm3k0").quiet(1));
        // With distance 0 those behind the last place do not go any more.
        Check.due("18: three at once, one place", 508, begun("tn5;sm3d0", "y:10").quiet(1));
        Check.due("18: three at once, two places", 510, begun("tn5p2;sm3d0", "y:10").quiet(1));
        Check.due("18: three at once, three places", 511, begun("tn5p3;sm3d0", "y:10").quiet(1));
    }

    // ---- PAY, PRICE, STRANGERS, BOTH, KIN, SEEN

    private static void payMoreAndLess() {
        // The first has it; person 0 goes in minute 3, person 1 never by itself.
        ThirdComer x = begun("tn1w50;s;sc1", "y:c=0&t=3?10");
        Check.due("15: person 0 has it", 100, x.odds(0, 2, SUM));
        Check.due("19: it has less by the whole", -100, x.pay(0, 1, 2));
        // Over in minute 4 by itself; if person 0 goes at once, person 1 has waited for 1 minute, not 4.
        Check.due("19: to wait costs less", 6, x.pay(1, 0, 2));
        x = begun("tn2w50;s;sc1", "y:c=0&t=3?10");
        Check.due("19: it has more by the whole", 100, x.pay(0, 1, 2));
        Check.due("19: nothing more and nothing less", 0, begun("tn2w50;sm3k0").pay(0, 1, 2));
    }

    /** Who is sent has no draw, so that the next one has the first. */
    private static void payWithoutADraw() {
        ThirdComer x = begun("tn1w100;sd9;sd0", "y:t=0?5");
        for (int n : new int[] {1, 2, 39, 40}) {
            Check.due("15: by the second draw", 100 * lowSecond(n, 5), x.odds(1, n, SUM));
            Check.due("19: by the first draw", 100 * (low(n, 5) - lowSecond(n, 5)), x.pay(1, 0, n));
        }
    }

    private static void priceNoLessThanNothing() {
        Check.due("20: it goes at once anyway", 0, begun("tn1w50;sk0").price(0, 3));
        // The second has it; person 0 has it now by coming in 4, behind person 1 in 2.
        Check.due("20: worth 1", 3, begun("tn2w1;s;sd2k0", "y:t=3?10").price(0, 3));
        Check.due("20: worth nothing", 0, begun("tn2w0;s;sd2k0", "y:t=3?10").price(0, 3));
        Check.due("20: worth as much as waiting costs", 0, begun("tn2w3;sc1;sd2k0", "y:t=3?10").price(0, 3));
        Check.due("20: worth 1 more than waiting costs", 3, begun("tn2w4;sc1;sd2k0", "y:t=3?10").price(0, 3));
        Check.due("20: worth 1 less than waiting costs", 0, begun("tn2w2;sc1;sd2k0", "y:t=3?10").price(0, 3));
    }

    private static void strangersMoreAndLess() {
        // Both come in 2; if one does not know, the other waits for good.
        ThirdComer x = begun("tn2;s;s", "y:t=1&h=0?10");
        Check.due("21: later", 3 * 58, x.strangers(0, 3));
        Check.due("21: later", 3 * 58, x.strangers(1, 3));
        x = begun("tn2;sm2", "y:0");
        Check.due("21: never, and in minute 1", -3 * 59, x.strangers(0, 3));
        x = begun("tn1;s;s", "y:10");
        Check.due("21: alike", 0, x.strangers(0, 3));
        x = begun("tn1;s;s;s;s;s;sd4", "y:0");
        Check.due("21: the first sort", -59, x.strangers(0, 1));
        Check.due("21: the last sort", -56, x.strangers(5, 1));
        Check.due("21: none behind it", HIDDEN, x.strangers(6, 1));
        Check.due("21: none ahead of the first", HIDDEN, x.strangers(-1, 1));
    }

    private static void bothOfAll() {
        for (int places = 1; places <= 3; places++) {
            ThirdComer x = begun("tn2p" + places + ";sm5k0");
            for (int one = 0; one < 5; one++) {
                for (int other = 0; other < 5; other++) {
                    boolean have = one >= 1 && one <= places && other >= 1 && other <= places;
                    int due = one == other ? NONE : have ? 4 : 0;
                    Check.due("37: " + one + " and " + other, due, x.both(one, other, 4));
                }
            }
        }
    }

    private static void kinMoreAndLess() {
        // Person 0 goes in minute 3 and has it as the first; person 1 never goes.
        ThirdComer x = begun("tn1w50f1;s;s", "y:o=1&t=3?10");
        Check.due("38: the first sooner", 2 * 3, x.kin(0, 1, 2));
        Check.due("38: the other instead", 2 * 3, x.kin(1, 0, 2));
        x = begun("tn2w50f1;s;s", "y:t=3?10");
        Check.due("38: as the second it is had all the same", 0, x.kin(0, 1, 2));
        x = begun("tn2w50f1;s;s", "y:h=0&t=3?10");
        Check.due("38: the second does not go any more", -2 * 46, x.kin(0, 1, 2));
        Check.due("38: the same the other way round", -2 * 46, x.kin(1, 0, 2));
        Check.due("38: alike", HIDDEN, x.kin(1, 1, 2));
    }

    private static void seenMoreAndLess() {
        Check.due("39: sooner", -57 * 2, begun("tn2;sd3k0;s", "y:g=1?10").seen(2));
        Check.due("39: later", 2, begun("tn2;sd3k0;s", "y:g=0?10").seen(2));
        Check.due("39: alike", 0, begun("tn2;sd3k0;s", "y:10").seen(2));
    }

    // ---- GAINS, BETTER, AGREED

    private static void gainsOfTheMost() {
        Check.due("40: nine who wait at 99", -9 * 99 * 61 * 40, begun("tn9;sm9c99", "y:0").gains(0, 40));
        Check.due("40: one who waits at 0", 0, begun("tn9;s", "y:0").gains(0, 40));
        Check.due("40: three places at 999", 3 * 999 * 40, begun("tn1p3w999;sm9k0").gains(0, 40));
        ThirdComer x = begun("tn1p3w999;s;s;s;s;s;s", "y:10");
        int[] due = {HIDDEN, 999, 999, 999, 0, 0, 0, HIDDEN};
        for (int sort = -1; sort <= 6; sort++) {
            Check.due("40: sort " + sort, due[sort + 1], x.gains(sort, 1));
        }
    }

    private static void oneOfTwenty() {
        ThirdComer x = begun("tn9p3;sm9k0;sm9k0;sm2k0");
        for (int person = -1; person <= 20; person++) {
            boolean there = person >= 0 && person < 20;
            int had = person >= 8 && person <= 10 ? 2 : 0;
            Check.due("15: HAD by " + person, there ? had : HIDDEN, x.odds(person, 2, HAD));
            Check.due("15: SUM of " + person, there ? had * 100 : HIDDEN, x.odds(person, 2, SUM));
            Check.due("15: no such what", HIDDEN, x.odds(person, 2, 2));
            Check.due("15: no such what", HIDDEN, x.odds(person, 2, -1));
        }
        Check.due("37: the last two of the places", 2, x.both(9, 10, 2));
        Check.due("37: the last of all", 0, x.both(18, 19, 2));
        Check.due("19: the last of all", 0, x.pay(19, 18, 2));
        Check.due("20: the last of all", 0, x.price(19, 2));
    }

    private static void betterOfOneAndOfSix() {
        ThirdComer x = begun("tn1w50;sc1", "y:0");
        Check.due("41: of one", 0, x.better(0, 1));
        Check.due("42: of one", 0, x.agree(1));
        for (int best = 0; best < 6; best++) {
            String[] texts = {"tn1w50;sc1", "y:0", "y:0", "y:0", "y:0", "y:0", "y:0"};
            texts[best + 1] = "y:10";
            x = begun(texts);
            for (int own = 0; own < 6; own++) {
                x.way(0, own);
                Check.due("41: of six", best, x.better(0, 1));
                Check.due("43: it keeps its own", own, x.wayOf(0));
                Check.due("42: changes", own == best ? 0 : 1, x.agree(1));
                Check.due("43: it has it now", best, x.wayOf(0));
            }
        }
    }

    private static void betterTheLowest() {
        ThirdComer x = begun("tn1w50;sc1", "y:0", "y:10", "y:0", "y:11", "y:10");
        for (int own = 0; own < 6; own++) {
            x.way(0, own);
            Check.due("41: of several the lowest", 1, x.better(0, 1));
            boolean better = own == 0 || own == 2 || own == 5;
            Check.due("42: no change without more", better ? 1 : 0, x.agree(1));
            Check.due("43: its way", better ? 1 : own, x.wayOf(0));
        }
        x = begun("tn9w50;s", "y:0", "y:0");
        Check.due("41: all alike", 0, x.better(0, 1));
        x.way(0, 1);
        Check.due("41: all alike", 0, x.better(0, 1));
        x.way(0, 5);
        Check.due("41: all alike, and like without one", 0, x.better(0, 1));
        Check.due("42: none changes", 0, x.agree(1));
        Check.due("43: it stays without", 5, x.wayOf(0));
    }

    /** The others go by their own ways meanwhile, those of the same way, too. */
    private static void betterBesideTheOthers() {
        ThirdComer x = begun("tn2w50f1;s;s", "y:t=2?10", "y:t=4?10", "y:t=1?10");
        // By the same way as person 1 person 0 comes first; a later way lets it be the second: 50 less 5.
        Check.due("41: behind the other", 1, x.better(0, 1));
        // Person 1 has it now by coming in 3; going in 1 would be first, in 4 later.
        Check.due("41: with the other", 0, x.better(1, 1));
        x.way(0, 2);
        Check.due("41: along with the first, being the second by its number", 2, x.better(1, 1));
    }

    private static void agreedAtOnce() {
        ThirdComer x = begun("tn1w50;sc1;sc1", "y:10");
        Check.due("42: none changes", 0, x.agree(1));
        x.way(0, 3);
        Check.due("42: one changes", 1, x.agree(1));
        Check.due("43: it goes", 0, x.wayOf(0));
        x.way(0, 3);
        x.way(1, 4);
        Check.due("42: both change", 2, x.agree(1));
        Check.due("43: the second goes", 0, x.wayOf(1));
        for (int sort = 2; sort < 6; sort++) {
            x.way(sort, 5);
        }
        Check.due("42: sorts that the village has not do not count", 0, x.agree(1));
        Check.due("43: and stay", 5, x.wayOf(2));
    }

    /** The first has it: each goes a minute ahead of the other by turns, from the sixth way down to the first. */
    private static void agreedByTurns() {
        ThirdComer x = begun("tn1w90f9;s;s", "y:t=5?10", "y:t=4?10", "y:t=3?10", "y:t=2?10", "y:t=1?10", "y:10");
        // Sort 0 has it in 6; it would sooner have it in 1, and takes the way of minute 0; then nothing helps sort 1.
        Check.due("41: soonest", 5, x.better(0, 1));
        Check.due("42: one change", 1, x.agree(1));
        x = begun("tn1w90;s;s", "y:t=5?10", "y:t=4?10", "y:t=3?10", "y:t=2?10", "y:t=1?10", "y:10");
        // Without a fall sort 0 has it already; sort 1 takes way 1 to be ahead; sort 0 takes way 1, too, being ahead by
        // its number; and so on, by five ways, two changes each.
        Check.due("41: the first has it", 0, x.better(0, 1));
        Check.due("42: ten changes", 10, x.agree(1));
        Check.due("43: sort 0", 5, x.wayOf(0));
        Check.due("43: sort 1", 5, x.wayOf(1));
    }
}
