/** Promises 15 to 21 and 36 to 42: whole mornings over seeds, apart from the one that stands. */
public final class SeedsTest {
    private static final int NONE = Check.NONE;
    private static final int HIDDEN = Check.HIDDEN;
    private static final String DRAWN = "y:h+g>1?4;y:t>5?2;y:1";

    public static void main(String[] args) {
        nothingBegan();
        refused();
        asMorningsOneByOne();
        otherLaws();
        othersByTexts();
        which();
        quiet();
        quietInEach();
        payPriceKin();
        placesNotAllHad();
        theMorningStays();
        better();
        betterOfWaysThere();
        stayingIsBest();
        agree();
        agreeWithoutEnd();
        agreeAtTheBound();
        afterOtherQuestions();
        twentyOfSixSorts();
        Check.finish();
    }

    private static void nothingBegan() {
        ThirdComer x = Check.with("t;sm3", "y:10");
        Check.due("15: none began", HIDDEN, x.odds(0, 1, 0));
        Check.due("16: none began", NONE, x.law(1, 1));
        Check.due("16: none began", NONE, x.law(NONE, 1));
        Check.due("17: none began", NONE, x.which(1));
        Check.due("18: none began", NONE, x.quiet(1));
        Check.due("19: none began", HIDDEN, x.pay(0, 1, 1));
        Check.due("20: none began", NONE, x.price(0, 1));
        Check.due("21: none began", HIDDEN, x.strangers(0, 1));
        Check.due("36: none began", NONE, x.ends(1, 1));
        Check.due("37: none began", NONE, x.both(0, 1, 1));
        Check.due("38: none began", HIDDEN, x.kin(0, 1, 1));
        Check.due("39: none began", HIDDEN, x.seen(1));
        Check.due("40: none began", HIDDEN, x.gains(0, 1));
        Check.due("41: none began", NONE, x.better(0, 1));
        Check.due("42: none began", NONE, x.agree(1));
    }

    private static void refused() {
        ThirdComer x = Check.with("t;sm3;s", "y:10");
        x.start(0, 0, 0, 0L);
        for (int n : new int[] {0, 41, -1, Integer.MIN_VALUE, Integer.MAX_VALUE}) {
            Check.due("15: n " + n, HIDDEN, x.odds(0, n, 0));
            Check.due("16: n " + n, NONE, x.law(NONE, n));
            Check.due("16: n " + n, NONE, x.law(1, n));
            Check.due("17: n " + n, NONE, x.which(n));
            Check.due("18: n " + n, NONE, x.quiet(n));
            Check.due("19: n " + n, HIDDEN, x.pay(0, 1, n));
            Check.due("20: n " + n, NONE, x.price(0, n));
            Check.due("21: n " + n, HIDDEN, x.strangers(0, n));
            Check.due("36: n " + n, NONE, x.ends(1, n));
            Check.due("37: n " + n, NONE, x.both(0, 1, n));
            Check.due("38: n " + n, HIDDEN, x.kin(0, 1, n));
            Check.due("39: n " + n, HIDDEN, x.seen(n));
            Check.due("40: n " + n, HIDDEN, x.gains(0, n));
            Check.due("41: n " + n, NONE, x.better(0, n));
            Check.due("42: n " + n, NONE, x.agree(n));
        }
        for (int person : new int[] {-1, 4, Integer.MIN_VALUE, Integer.MAX_VALUE}) {
            Check.due("15: person " + person, HIDDEN, x.odds(person, 1, 0));
            Check.due("19: person " + person, HIDDEN, x.pay(person, 1, 1));
            Check.due("19: other " + person, HIDDEN, x.pay(1, person, 1));
            Check.due("20: person " + person, NONE, x.price(person, 1));
            Check.due("37: one " + person, NONE, x.both(person, 1, 1));
            Check.due("37: other " + person, NONE, x.both(1, person, 1));
            Check.due("38: one " + person, HIDDEN, x.kin(person, 1, 1));
            Check.due("38: other " + person, HIDDEN, x.kin(1, person, 1));
        }
        Check.due("15: no such what", HIDDEN, x.odds(0, 1, 2));
        Check.due("15: what below 0", HIDDEN, x.odds(0, 1, -1));
        Check.due("19: alike", HIDDEN, x.pay(2, 2, 1));
        Check.due("37: alike", NONE, x.both(2, 2, 1));
        Check.due("38: alike", HIDDEN, x.kin(2, 2, 1));
        for (int nth : new int[] {0, 10, -2}) {
            Check.due("16: nth " + nth, NONE, x.law(nth, 1));
        }
        for (int sort : new int[] {-1, 2, 6}) {
            Check.due("21: sort " + sort, HIDDEN, x.strangers(sort, 1));
            Check.due("40: sort " + sort, HIDDEN, x.gains(sort, 1));
            Check.due("41: sort " + sort, NONE, x.better(sort, 1));
        }
        for (int minute : new int[] {-2, 61}) {
            Check.due("36: minute " + minute, NONE, x.ends(minute, 1));
        }
        ThirdComer noWays = Check.with("t;s");
        noWays.start(0, 0, 0, 0L);
        Check.due("41: no ways", NONE, noWays.better(0, 1));
        Check.due("42: no ways", NONE, noWays.agree(1));
        Check.due("40: no ways", 0, noWays.gains(0, 1));
    }

    /** What is asked over seeds is what mornings by these seeds give when they are run one by one. */
    private static void asMorningsOneByOne() {
        String village = "tw5;tn2p2w90f2;sm3c1;sd0c2;sm2d3k0;sc3d2";
        for (int n : new int[] {1, 2, 40}) {
            ThirdComer one = Check.with(village, DRAWN, "y:3");
            one.way(1, 1);
            int people = one.village(0, 2);
            int[] had = new int[people];
            int[] sums = new int[people];
            int[] ends = new int[62];
            int late = 0;
            int together = 0;
            for (int seed = 0; seed < n; seed++) {
                one.start(0, 1, 1, seed);
                one.minutes(61);
                for (int person = 0; person < people; person++) {
                    had[person] += one.who(person, 4);
                    sums[person] += one.who(person, 5);
                }
                late += one.about(6) == NONE ? 60 : one.about(6);
                ends[one.about(6) + 1]++;
                together += one.who(0, 4) + one.who(5, 4) == 2 ? 1 : 0;
            }
            ThirdComer x = Check.with(village, DRAWN, "y:3");
            x.way(1, 1);
            x.start(0, 1, 1, -7L);
            x.minutes(2);
            for (int person = 0; person < people; person++) {
                Check.due("15: HAD over " + n, had[person], x.odds(person, n, 0));
                Check.due("15: SUM over " + n, sums[person], x.odds(person, n, 1));
            }
            Check.due("16: LATE over " + n, late, x.law(NONE, n));
            Check.due("16: its own NTH over " + n, late, x.law(2, n));
            for (int minute = -1; minute <= 60; minute++) {
                Check.due("36: ENDS in " + minute + " over " + n, ends[minute + 1], x.ends(minute, n));
            }
            Check.due("37: BOTH over " + n, together, x.both(0, 5, n));
            Check.due("37: BOTH the other way round", together, x.both(5, 0, n));
            Check.due("40: ALL GAINS of 0 over " + n, sums[0] + sums[1] + sums[2], x.gains(0, n));
            Check.due("40: ALL GAINS of 1 over " + n, sums[3], x.gains(1, n));
            Check.due("40: ALL GAINS of 2 over " + n, sums[4] + sums[5], x.gains(2, n));
        }
    }

    /** LAW is LATE of a village that is the same but for the NTH. */
    private static void otherLaws() {
        ThirdComer x = Check.with("tn3p2w90f2;sm4c1;sd0;sm2d3", "y:n>h+g?3;y:1");
        x.start(0, 0, 1, 0L);
        int least = Integer.MAX_VALUE;
        int which = 0;
        for (int nth = 1; nth <= 9; nth++) {
            ThirdComer other = Check.with("tn" + nth + "p2w90f2;sm4c1;sd0;sm2d3", "y:n>h+g?3;y:1");
            other.start(0, 0, 1, 0L);
            int late = other.law(NONE, 12);
            Check.due("16: LAW of " + nth, late, x.law(nth, 12));
            if (late < least) {
                least = late;
                which = nth;
            }
        }
        Check.due("17: WHICH", which, x.which(12));
    }

    /** One who goes in minute 0, strangers and looks are as in villages told so. */
    private static void othersByTexts() {
        String way = "y:g+h<n?2;y:g>2?0;y:4";
        ThirdComer x = Check.with("tn2w99f1;sc2d2;sm3c1;s", way);
        ThirdComer sent = Check.with("tn2w99f1;sc2d2k0;sm3c1;s", way);
        ThirdComer strangers = Check.with("tn2w99f1;sc2d2;sm3c1k0;s", way);
        for (int n = 1; n <= 40; n += 13) {
            for (int look = 0; look < 2; look++) {
                x.start(0, 0, look, 5L);
                sent.start(0, 0, look, 5L);
                strangers.start(0, 0, look, 5L);
                int own = x.odds(0, n, 1);
                Check.due("20: PRICE", Math.max(0, own - sent.odds(0, n, 1)), x.price(0, n));
                for (int person = 1; person < 5; person++) {
                    int more = sent.odds(person, n, 1) - x.odds(person, n, 1);
                    Check.due("19: PAY", more, x.pay(person, 0, n));
                    Check.due("38: KIN", more + sent.odds(0, n, 1) - own, x.kin(0, person, n));
                }
                Check.due("21: STRANGERS", strangers.law(NONE, n) - x.law(NONE, n), x.strangers(1, n));
                Check.due("21: they were so already", 0, strangers.strangers(1, n));
            }
            x.start(0, 0, 1, 5L);
            int seeing = x.law(NONE, n);
            x.start(0, 0, 0, 5L);
            int blind = x.law(NONE, n);
            Check.due("39: SEEN", seeing - blind, x.seen(n));
            x.start(0, 0, 1, 5L);
            Check.due("39: SEEN, whatever LOOK it has", seeing - blind, x.seen(n));
        }
    }

    private static void which() {
        ThirdComer x = Check.with("tn1;sm6", "y:n=4|n=6?10");
        x.start(0, 0, 0, 0L);
        Check.due("16: by 3 nobody goes", 120, x.law(3, 2));
        Check.due("16: by 4 all go", 2, x.law(4, 2));
        Check.due("17: the lowest of several", 4, x.which(2));
        x = Check.with("tn1;sm6", "y:n=2?10");
        x.start(0, 0, 0, 0L);
        Check.due("17: the second", 2, x.which(2));
        x = Check.with("tn1;sm9", "y:n=9?10");
        x.start(0, 0, 0, 0L);
        Check.due("17: the ninth", 9, x.which(3));
        x = Check.with("tn5;s");
        x.start(0, 0, 0, 0L);
        Check.due("17: all alike", 1, x.which(3));
    }

    private static void quiet() {
        Check.due("18: all at once, but the first takes it", 510, quietOf("tn1;sm2d0", "y:10"));
        Check.due("18: by NTH", 504, quietOf("tn1;sm2", "y:n>3?10"));
        Check.due("18: none goes", 0, quietOf("tn1;sm2", "y:0"));
        Check.due("18: a minute late", 0, quietOf("tn1;sm2d9", "y:t=1?10"));
        Check.due("18: one stays", 0, quietOf("tn1;s;sc1", "y:c=0?10"));
        Check.due("18: who does not know goes at once", 511, quietOf("tn1;sk0", "y:0"));
    }

    private static int quietOf(String village, String way) {
        ThirdComer x = Check.with(village, way);
        x.start(0, 0, 0, 0L);
        return x.quiet(3);
    }

    /** In each of the mornings: with one who draws, as long as all first draws are low enough. */
    private static void quietInEach() {
        int bound = firstDraw(0) + 1;
        int n = 1;
        while (firstDraw(n) < bound) {
            n++;
        }
        ThirdComer x = Check.with("tn1;s", "y:" + bound);
        x.start(0, 0, 0, 0L);
        Check.due("18: as long as each is quiet", 511, x.quiet(n));
        Check.due("18: one is not", 0, x.quiet(n + 1));
    }

    private static int firstDraw(long seed) {
        return (int) ((seed * 6364136223846793005L + 1442695040888963407L >>> 33) % 10);
    }

    /** The third has it; nobody goes ahead of another, but the last one goes when one came, by itself in minute 9. */
    private static void payPriceKin() {
        ThirdComer x = Check.with("tn2w50f3;sm2c2;sd3c1", "y:h>0?10;y:t=9&c=1?10");
        x.start(0, 0, 0, 0L);
        // Person 2 goes in 9 and comes first in 12; 0 and 1 go in 12 and come in 13, where 0 has it: 11 - 24.
        Check.due("15: SUM of 0", 3 * (11 - 24), x.odds(0, 3, 1));
        Check.due("15: SUM of 1", 3 * -24, x.odds(1, 3, 1));
        Check.due("15: SUM of 2", 3 * -9, x.odds(2, 3, 1));
        // If 1 goes first, it comes in 1; then 0 comes in 2 and has it: 44 - 2; 2 is on the way: -1.
        Check.due("19: what 0 may pay 1", 3 * (42 + 13), x.pay(0, 1, 3));
        Check.due("19: what 2 may pay 1", 3 * (-1 + 9), x.pay(2, 1, 3));
        Check.due("20: 1 has no less", 0, x.price(1, 3));
        Check.due("38: 1 and 0 are brothers", 3 * (24 + 55), x.kin(1, 0, 3));
        // If 2 goes first, it comes in 3, and 0 has it in 4: 38 - 6.
        Check.due("19: what 0 may pay 2", 3 * (32 + 13), x.pay(0, 2, 3));
        Check.due("38: 2 and 0 are brothers", 3 * (9 + 45), x.kin(2, 0, 3));
        // If 0 goes first, it comes in 1; 1 has it in 2: 42.
        Check.due("20: 0 has more itself", 0, x.price(0, 3));
        Check.due("38: 0 and 1 are brothers", 3 * (13 + 42 + 24), x.kin(0, 1, 3));
        // One who had the place as the second loses it by going first.
        x = Check.with("tn2w50f1;sd2;sd1k0", "y:t=0?10");
        x.start(0, 0, 0, 0L);
        Check.due("15: it has it now", 4 * 48, x.odds(0, 4, 1));
        Check.due("20: going in minute 0 anyway", 0, x.price(0, 4));
        x = Check.with("tn2w50f1;sd1;sd2k0", "y:t=3?10");
        x.start(0, 0, 0, 0L);
        Check.due("15: it has it now", 4 * 46, x.odds(0, 4, 1));
        Check.due("20: what it loses", 4 * 46, x.price(0, 4));
        Check.due("19: what the other gains", 4 * 48, x.pay(1, 0, 4));
        Check.due("38: both together", 4 * 2, x.kin(0, 1, 4));
    }

    /** The last place is the last of all PLACES: LATE and ENDS wait for it. */
    private static void placesNotAllHad() {
        ThirdComer x = Check.with("tn1p2w10;sm5", "y:10");
        x.start(0, 0, 0, 0L);
        Check.due("16: both places", 3, x.law(4, 3));
        Check.due("16: one of two", 180, x.law(5, 3));
        Check.due("16: none of two", 180, x.law(6, 3));
        x = Check.with("tn5p2w10;sm5", "y:10");
        x.start(0, 0, 0, 0L);
        Check.due("36: never", 3, x.ends(NONE, 3));
        Check.due("36: not when the first was had", 0, x.ends(1, 3));
        Check.due("15: though one is had", 3, x.odds(4, 3, 0));
        Check.due("15: and is worth something", 30, x.odds(4, 3, 1));
    }

    private static ThirdComer longToAgree(int wayOfSortOne) {
        ThirdComer x = Check.with("tn5p3w93f2;sm1d0c2;sm2d3c3;sm1d3c1;sm2d0c3;sm3d2c2;sm1d2c7", "y:o<2?10;y:1", "y:3",
            "y:h=n-1?10;y:0", "y:t>5?10", "y:r", "y:g>0?10;y:0");
        int[] ways = {3, wayOfSortOne, 4, 1, 2, 0};
        for (int sort = 0; sort < 6; sort++) {
            x.way(sort, ways[sort]);
        }
        x.start(0, 0, 1, 0L);
        return x;
    }

    /** The same by steps of better, gains and way: how many changes, 99 at most. */
    private static int agreeByHand(ThirdComer x, int sorts) {
        int changes = 0;
        int sort = 0;
        for (int still = 0; still < sorts && changes < 99; sort = (sort + 1) % sorts) {
            int own = x.wayOf(sort);
            int gains = x.gains(sort, 1);
            x.way(sort, x.better(sort, 1));
            boolean more = x.gains(sort, 1) > gains;
            x.way(sort, more ? x.wayOf(sort) : own);
            changes += more ? 1 : 0;
            still = more ? 0 : still + 1;
        }
        return changes;
    }

    /** Thirty changes are still agreed, one more is not. */
    private static void agreeAtTheBound() {
        ThirdComer x = longToAgree(1);
        ThirdComer byHand = longToAgree(1);
        Check.due("42: 30 by hand", 30, agreeByHand(byHand, 6));
        Check.due("42: 30", 30, x.agree(1));
        for (int sort = 0; sort < 6; sort++) {
            Check.due("42: ways become so", byHand.wayOf(sort), x.wayOf(sort));
        }
        Check.due("42: 31 by hand", 31, agreeByHand(longToAgree(3), 6));
        x = longToAgree(3);
        Check.due("42: 31", NONE, x.agree(1));
        int[] ways = {3, 3, 4, 1, 2, 0};
        for (int sort = 0; sort < 6; sort++) {
            Check.due("42: ways stay as they were", ways[sort], x.wayOf(sort));
        }
    }

    /** No question leaves anything behind for the next one. */
    private static void afterOtherQuestions() {
        String[] texts = {"tn2p2w99f1;sc2d2;sm3c1;sm2", "y:g+h<n?2;y:g>2?0;y:4"};
        for (int first = 0; first < 5; first++) {
            for (int second = 0; second < 10; second++) {
                ThirdComer x = Check.with(texts);
                ThirdComer other = Check.with(texts);
                x.start(0, 0, 1, 0L);
                other.start(0, 0, 1, 0L);
                disturb(x, first);
                Check.due("15: " + second + " behind " + first, ask(other, second), ask(x, second));
            }
        }
    }

    private static void disturb(ThirdComer x, int which) {
        switch (which) {
            case 0: x.law(7, 9); break;
            case 1: x.pay(1, 0, 9); break;
            case 2: x.strangers(1, 9); break;
            case 3: x.seen(9); break;
            default: x.way(1, 4); x.gains(0, 9); x.way(1, 0); break;
        }
    }

    private static int ask(ThirdComer x, int which) {
        switch (which) {
            case 0: return x.odds(1, 12, 1);
            case 1: return x.law(NONE, 12);
            case 2: return x.price(0, 12);
            case 3: return x.pay(1, 2, 12);
            case 4: return x.strangers(0, 12);
            case 5: return x.seen(12);
            case 6: return x.both(1, 2, 12);
            case 7: return x.kin(1, 2, 12);
            case 8: return x.gains(1, 12);
            default: return x.ends(4, 12);
        }
    }

    private static void twentyOfSixSorts() {
        ThirdComer x = Check.with("tn9p3w99f1;sm9;sm7;s;s;s;sc1", "y:10", "y:0");
        x.start(0, 0, 0, 0L);
        Check.due("15: the last who has it", 3, x.odds(10, 3, 0));
        Check.due("15: the last", 0, x.odds(19, 3, 1));
        Check.due("40: the first sort has one", 3 * 98, x.gains(0, 3));
        Check.due("40: the last sort", 0, x.gains(5, 3));
        Check.due("37: two who have it", 3, x.both(8, 10, 3));
        x.way(5, 1);
        // It is over in minute 1, so that waiting costs 1 each.
        Check.due("40: the last sort waits", -3, x.gains(5, 3));
        Check.due("41: the last sort", 0, x.better(5, 3));
        Check.due("42: it changes alone", 1, x.agree(3));
        Check.due("42: it goes", 0, x.wayOf(5));
    }

    private static void theMorningStays() {
        ThirdComer x = Check.with("tn3w90f2;sm4c1d2;sd0", DRAWN, "y:2");
        ThirdComer still = Check.with("tn3w90f2;sm4c1d2;sd0", DRAWN, "y:2");
        x.start(0, 0, 1, 11L);
        still.start(0, 0, 1, 11L);
        for (int i = 0; i < 12; i++) {
            x.odds(0, 3, 0);
            x.law(1, 3);
            x.which(2);
            x.quiet(2);
            x.pay(0, 1, 2);
            x.price(0, 2);
            x.strangers(0, 2);
            x.ends(1, 2);
            x.both(0, 1, 2);
            x.kin(0, 1, 2);
            x.seen(2);
            x.gains(0, 2);
            x.better(0, 2);
            for (int what = 0; what < 8; what++) {
                Check.due("15: the morning stays", still.about(what), x.about(what));
            }
            for (int k = 0; k < 30; k++) {
                Check.due("15: the people stay", still.who(k / 6, k % 6), x.who(k / 6, k % 6));
            }
            Check.due("12: and goes on alike", still.minutes(1), x.minutes(1));
        }
    }

    private static void better() {
        ThirdComer x = Check.with("tn2w50f3;sm3c2", "y:h>0?10;y:0", "y:10", "y:10;y:0");
        x.start(0, 0, 0, 0L);
        Check.due("40: nobody goes", 2 * 3 * -122, x.gains(0, 2));
        Check.due("41: all go: the lowest of several", 1, x.better(0, 2));
        Check.due("41: it keeps its own", 0, x.wayOf(0));
        x.way(0, 2);
        Check.due("41: also if it has an equal one", 1, x.better(0, 2));
        Check.due("42: which it does not change for", 0, x.agree(2));
        Check.due("42: it stays", 2, x.wayOf(0));
        x.way(0, 5);
        Check.due("40: without its way it never goes", 2 * 3 * -122, x.gains(0, 2));
        Check.due("41: of those there are", 1, x.better(0, 2));
        Check.due("42: it changes", 1, x.agree(2));
        Check.due("42: to the lowest", 1, x.wayOf(0));
    }

    private static void betterOfWaysThere() {
        ThirdComer x = Check.with("tn1w10;sc5;sd0", "y:t=60?10");
        x.way(0, 4);
        x.way(1, 3);
        x.start(0, 0, 0, 0L);
        Check.due("41: the only one", 0, x.better(0, 3));
        Check.due("41: the other keeps its own", 3, x.wayOf(1));
        // Without a way 61 minutes cost 305, with it 300 by the sixtieth; the other one gains 10 by then.
        Check.due("42: both change", 2, x.agree(3));
        Check.due("42: the first", 0, x.wayOf(0));
        Check.due("42: the second", 0, x.wayOf(1));
        Check.due("42: now none does", 0, x.agree(3));
        for (int sort = 2; sort < 6; sort++) {
            Check.due("42: others stay", 0, x.wayOf(sort));
        }
    }

    /** The first who comes has it: each would go a minute ahead of the other, as far as ways there are. */
    private static void agree() {
        ThirdComer x = Check.with("tn1w50;s;s;sm2k0d9", "y:t=4?10", "y:t=3?10", "y:t=2?10", "y:t=1?10");
        x.start(0, 0, 0, 0L);
        // Sort 1 comes in 5 behind sort 0, and takes the lowest way that is ahead; then sort 0 does with the same
        // way, being ahead by its number; and so on, three times each.
        Check.due("41: ahead of the other", 1, x.better(1, 2));
        Check.due("41: the first has it already", 0, x.better(0, 2));
        Check.due("42: changes", 6, x.agree(2));
        Check.due("42: sort 0", 3, x.wayOf(0));
        Check.due("42: sort 1", 3, x.wayOf(1));
        Check.due("42: sort 2", 0, x.wayOf(2));
        Check.due("42: now none changes", 0, x.agree(2));
    }

    /** It may be better to stay without a way than to take any there is; then none is taken. */
    private static void stayingIsBest() {
        // Those of sort 1 go in minute 1, and end it, unless one of sort 0 has gone; by the way one of them would.
        ThirdComer x = Check.with("tn2w0;sm2c1;sm2", "y:c=0&t=1&o-r=2?10;y:c=1&r=1&t=0?10");
        x.start(0, 0, 1, 0L);
        x.way(0, 5);
        Check.due("40: it ends in minute 2", 2 * -2, x.gains(0, 1));
        Check.due("41: of those there are", 0, x.better(0, 1));
        Check.due("42: it gives no more than its own", 0, x.agree(1));
        Check.due("42: it stays", 5, x.wayOf(0));
    }

    private static void agreeWithoutEnd() {
        ThirdComer x = Check.with("tn2p2w36f1;sm1d0c2;sm2d0c1", "y:10", "y:t>2?10;y:0", "y:t=1?10;y:0");
        x.way(0, 2);
        x.way(1, 4);
        x.way(5, 3);
        x.start(0, 0, 0, 0L);
        Check.due("42: more than 30", NONE, x.agree(1));
        Check.due("42: ways stay as they were", 2, x.wayOf(0));
        Check.due("42: ways stay as they were", 4, x.wayOf(1));
        Check.due("42: ways stay as they were", 3, x.wayOf(5));
    }
}
