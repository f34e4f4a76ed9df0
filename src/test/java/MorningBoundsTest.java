/**
 * Every bound that the document names of mornings (part 2, promises 11 to 14, 50 and 51), one test for each: at the
 * bound, one below and one above it, the empty and the full.
 */
public final class MorningBoundsTest {
    private static final int NONE = Check.NONE;
    private static final int HIDDEN = Check.HIDDEN;
    private static final int STATE = 0;
    private static final int WENT = 1;
    private static final int CAME = 2;
    private static final int RANK = 3;
    private static final int HAS = 4;
    private static final int GAIN = 5;
    private static final int WAITS = 0;
    private static final int ON_THE_WAY = 1;
    private static final int IS_THERE = 2;

    public static void main(String[] args) {
        aMillionByPlus();
        aMillionByMinus();
        aMillionByTimes();
        cutTowardsNought();
        dividedByNought();
        noClauseHolds();
        valueAgainstTheDraw();
        valueBelowAndAboveAllDraws();
        seedsThatGoRound();
        oneDrawForEachWhoWaits();
        aWayThatIsNotThere();
        lookOrNot();
        letterOfMinutes();
        letterOfComers();
        lettersOfWaiters();
        letterOfWorth();
        lettersOfLawAndCost();
        whoDoesNotKnow();
        everyDistance();
        distanceNought();
        nobodyGoesWhenAllIsHad();
        comesInTheLastMinute();
        goesInTheLastMinute();
        minutesOneToSixtyOne();
        overWhenAllPlacesAreHad();
        overWhenAllCame();
        notOverWhileOneIsOnTheWay();
        ranksThatHaveAPlace();
        fewerThanThePlaces();
        worthNoLessThanNothing();
        costOfWaiting();
        startOfEachThingAndLook();
        statesOfOne();
        aboutTheMorning();
        imageOfTheFirstAndTheLastMinute();
        imageInsteadOfTheOneAhead();
        backAgainAndAgain();
        theLastOf512Calls();
        Check.finish();
    }

    /** A morning of village 0, thing 0, without looking, by seed 0, run to its end. */
    private static ThirdComer ran(String... texts) {
        ThirdComer x = begun(texts);
        x.minutes(61);
        return x;
    }

    private static ThirdComer begun(String... texts) {
        ThirdComer x = Check.with(texts);
        Check.yes("11: start", x.start(0, 0, 0, 0L));
        return x;
    }

    private static void who(ThirdComer x, String text, int person, int... due) {
        for (int what = 0; what < due.length; what++) {
            Check.due("13: " + text + ": who(" + person + ", " + what + ")", due[what], x.who(person, what));
        }
    }

    private static void about(ThirdComer x, String text, int... due) {
        for (int what = 0; what < due.length; what++) {
            Check.due("14: " + text + ": about(" + what + ")", due[what], x.about(what));
        }
    }

    private static void went(String village, String way, int... due) {
        ThirdComer x = ran(village, way);
        for (int person = 0; person < due.length; person++) {
            Check.due("12: {" + way + "} in {" + village + "}, " + person, due[person], x.who(person, WENT));
        }
    }

    /** Two sums are alike if one who asks so goes in minute 0. */
    private static void alike(String one, String other) {
        Check.due("12: " + one + " = " + other, 0, ran("tn9;s", "y:" + one + "=" + other + "?10").who(0, WENT));
    }

    /** The first draw by a seed. */
    private static int firstDraw(long seed) {
        return (int) ((seed * 6364136223846793005L + 1442695040888963407L >>> 33) % 10);
    }

    // ---- what a way is worth

    /** 999 times 1001 is one short of a million. */
    private static void aMillionByPlus() {
        alike("999*1001+0-999*1001", "0");
        alike("999*1001+1-999*1001", "1");
        alike("999*1001+2-999*1001", "1");
        alike("999*1001+9999-999*1001", "1");
        alike("1000*1000+[1000*1000]-999*1001", "1");
        alike("1000*1000+1-1", "999*1001");
        alike("[0-1000*1000]+[0-1]+1", "0-999*1001");
        alike("1+1000*1000", "1000*1000");
    }

    private static void aMillionByMinus() {
        alike("0-999*1001-0+999*1001", "0");
        alike("0-999*1001-1+999*1001", "0-1");
        alike("0-999*1001-2+999*1001", "0-1");
        alike("0-999*1001-9999+999*1001", "0-1");
        alike("0-1000*1000-1000*1000+999*1001", "0-1");
        alike("1000*1000-[0-1]-1", "999*1001");
        alike("999*1001-[0-1]-999*1001", "1");
        alike("999*1001-[0-2]-999*1001", "1");
    }

    private static void aMillionByTimes() {
        alike("1000*1000-999*1001", "1");
        alike("1000*1001-999*1001", "1");
        alike("9999*9999-999*1001", "1");
        alike("9999*9999*9999*9999-999*1001", "1");
        alike("[0-1000]*1000+999*1001", "0-1");
        alike("[0-1000]*1001+999*1001", "0-1");
        alike("[0-9999]*9999+999*1001", "0-1");
        alike("[0-1000]*[0-1001]-999*1001", "1");
        alike("1000*1000*[0-1000*1000]+999*1001", "0-1");
        alike("[0-1000*1000]*[0-1000*1000]-999*1001", "1");
        alike("1000*1001/1000", "1000");
        alike("9999*9999/1000/1000", "1");
    }

    private static void cutTowardsNought() {
        alike("1/2", "0");
        alike("[0-1]/2", "0");
        alike("1/[0-2]", "0");
        alike("2/2", "1");
        alike("3/2", "1");
        alike("[0-2]/2", "0-1");
        alike("[0-3]/2", "0-1");
        alike("3/[0-2]", "0-1");
        alike("[0-3]/[0-2]", "1");
        alike("9998/9999", "0");
        alike("9999/9999", "1");
        alike("[0-9999]/9998", "0-1");
        alike("1000*1000/[0-1]+999*1001", "0-1");
    }

    private static void dividedByNought() {
        alike("0/0", "0");
        alike("1/0", "0");
        alike("[0-1]/0", "0");
        alike("1000*1000/0", "0");
        alike("5/[3-3]", "0");
        alike("5/t", "0");
        alike("7+5/0", "7");
        alike("5/0*3", "0");
        alike("0/1", "0");
    }

    private static void noClauseHolds() {
        went("tn9;s", "y:1=2?10", NONE);
        went("tn9;s", "y:1=2?10;y:2=3?10", NONE);
        went("tn9;s", "y:1=2?10;y:10", 0);
        went("tn9;s", "y:1=1?0;y:10", NONE);
        went("tn9;s", "y:1=2?0;y:1=1?10;y:0", 0);
    }

    /** One goes in minute 0 if its draw is below what the way is worth: for each value, and each draw. */
    private static void valueAgainstTheDraw() {
        int seen = 0;
        for (int value = 0; value <= 10; value++) {
            ThirdComer x = Check.with("tn9;s", "y:" + value);
            for (long seed = 0; seed < 40; seed++) {
                x.start(0, 0, 0, seed);
                x.minutes(1);
                int draw = firstDraw(seed);
                seen |= 1 << draw;
                Check.due("12: draw " + draw + " below " + value, draw < value ? 0 : NONE, x.who(0, WENT));
            }
        }
        Check.due("every draw was seen", 1023, seen);
    }

    private static void valueBelowAndAboveAllDraws() {
        for (String value : new String[] {"0-1", "0-1000*1000", "0"}) {
            went("tn9;sm4", "y:" + value, NONE, NONE, NONE, NONE);
        }
        for (String value : new String[] {"10", "11", "9999", "1000*1000"}) {
            went("tn9;sm4", "y:" + value, 0, 0, 0, 0);
        }
    }

    /** Many draws of seeds at the ends of 64 bits. */
    private static void seedsThatGoRound() {
        long[] seeds = {0, 1, -1, Long.MAX_VALUE, Long.MIN_VALUE, Long.MAX_VALUE - 1, 1L << 33, (1L << 32) - 1};
        for (long seed : seeds) {
            ThirdComer x = Check.with("tn9;sm3;sm2", "y:1");
            x.start(0, 0, 0, seed);
            x.minutes(61);
            java.math.BigInteger modulus = java.math.BigInteger.ONE.shiftLeft(64);
            java.math.BigInteger drawn = java.math.BigInteger.valueOf(seed);
            int[] due = {NONE, NONE, NONE, NONE, NONE};
            for (int minute = 0; minute <= 60; minute++) {
                for (int person = 0; person < 5; person++) {
                    if (due[person] != NONE) {
                        continue;
                    }
                    drawn = drawn.multiply(java.math.BigInteger.valueOf(6364136223846793005L))
                        .add(java.math.BigInteger.valueOf(1442695040888963407L)).mod(modulus);
                    if (drawn.shiftRight(33).mod(java.math.BigInteger.TEN).intValue() < 1) {
                        due[person] = minute;
                    }
                }
            }
            for (int person = 0; person < 5; person++) {
                Check.due("12: by seed " + seed, due[person], x.who(person, WENT));
            }
        }
    }

    /** Whatever the value is: those who surely stay and those who surely go have a draw each, too. */
    private static void oneDrawForEachWhoWaits() {
        for (String first : new String[] {"0", "10", "0-5", "99"}) {
            for (long seed = 0; seed < 20; seed++) {
                ThirdComer x = Check.with("tn9;s;s", "y:" + first, "y:5");
                x.way(1, 1);
                x.start(0, 0, 0, seed);
                x.minutes(1);
                long behind = seed * 6364136223846793005L + 1442695040888963407L;
                Check.due("12: the second draw", firstDraw(behind) < 5 ? 0 : NONE, x.who(1, WENT));
            }
        }
    }

    private static void aWayThatIsNotThere() {
        ThirdComer x = Check.with("tn9;s;s;s;s;s;s", "y:10", "y:10");
        for (int sort = 0; sort < 6; sort++) {
            x.way(sort, sort);
        }
        x.start(0, 0, 0, 0L);
        x.minutes(61);
        for (int sort = 0; sort < 6; sort++) {
            Check.due("12: two ways, and " + sort, sort < 2 ? 0 : NONE, x.who(sort, WENT));
        }
        x = Check.with("tn9;s");
        x.start(0, 0, 0, 0L);
        x.minutes(61);
        Check.due("12: no ways at all", NONE, x.who(0, WENT));
    }

    // ---- letters

    private static void lookOrNot() {
        for (int look = 0; look <= 1; look++) {
            for (int underway = 0; underway <= 3; underway++) {
                ThirdComer x = Check.with("tn9;sm3d9k0;s", "y:g=" + underway + "?10");
                x.start(0, 0, look, 0L);
                x.minutes(1);
                int due = underway == (look == 1 ? 3 : 0) ? 0 : NONE;
                Check.due("12: look " + look + ", " + underway + " on the way", due, x.who(3, WENT));
            }
        }
        ThirdComer x = Check.with("tn9;sm9d9k0;sm9d9k0;s;s", "y:g=18?10");
        x.start(0, 0, 1, 0L);
        x.minutes(1);
        Check.due("12: eighteen on the way", 0, x.who(18, WENT));
        Check.due("12: nineteen on the way", NONE, x.who(19, WENT));
    }

    private static void letterOfMinutes() {
        for (int minute : new int[] {0, 1, 59, 60}) {
            went("tn9;s", "y:t=" + minute + "?10", minute);
        }
        went("tn9;s", "y:t=61?10", NONE);
        went("tn9;s", "y:t>59?10", 60);
        went("tn9;s", "y:t>60?10", NONE);
        went("tn9;s", "y:t<0?10", NONE);
    }

    private static void letterOfComers() {
        went("tn9;s", "y:h=0?10", 0);
        went("tn9;sm3d2k0;s", "y:h=3?10", 0, 0, 0, 2);
        went("tn9;sm3d2k0;s", "y:h=4?10", 0, 0, 0, NONE);
        went("tn9;sm8d0k0;s", "y:h=8?10", 0, 0, 0, 0, 0, 0, 0, 0, 0);
        went("tn9;sm8d0k0;s", "y:h=7?10", 0, 0, 0, 0, 0, 0, 0, 0, NONE);
    }

    private static void lettersOfWaiters() {
        went("tn9;s", "y:o=0?10", 0);
        went("tn9;s", "y:r=0?10", 0);
        went("tn9;sm2", "y:o=0?10", NONE, NONE);
        went("tn9;sm2", "y:r=1?10", 0, NONE);
        went("tn9;sm9;sm9;sm2", "y:o=19?10", 0, NONE);
        went("tn9;sm9;sm9;sm2", "y:o=20?10", NONE, NONE);
        went("tn9;sm9;sm9;sm2", "y:r=8?10", 0, NONE, NONE, NONE, NONE, NONE, NONE, NONE, NONE, 0, NONE);
        went("tn9;sm9;sm9;sm2", "y:r=9?10", NONE, NONE);
        went("tn9;s;s;s", "y:r=0&o=2?10", 0, NONE, NONE);
        went("tn9;s;s;s", "y:r=0&o=0?10", NONE, NONE, NONE);
    }

    private static void letterOfWorth() {
        went("tn9w10f5;s", "y:v=10?10", 0);
        went("tn9w10f5;s", "y:v=5?10", 1);
        went("tn9w10f5;s", "y:v=0?10", 2);
        went("tn9w10f5;s", "y:v<0?10", NONE);
        went("tn9w11f5;s", "y:v=1?10", 2);
        went("tn9w11f5;s", "y:v=0?10", 3);
        went("tn9w9f5;s", "y:v=0?10", 2);
        went("tn9w0f99;s", "y:v=0?10", 0);
        went("tn9w999f0;s", "y:v=999&t=60?10", 60);
        went("tn9w999f99;s", "y:v=999-99*t&t=10?10", 10);
        went("tn9w999f99;s", "y:v=0?10", 11);
        went("tn9;s", "y:v=100?10", 0);
    }

    private static void lettersOfLawAndCost() {
        for (int nth = 1; nth <= 9; nth++) {
            went("tn" + nth + ";s", "y:t=n?10", nth);
        }
        went("t;s", "y:t=n?10", 3);
        went("tn9;sc0", "y:t=c?10", 0);
        went("tn9;sc60", "y:t=c?10", 60);
        went("tn9;sc61", "y:t=c?10", NONE);
        went("tn9;sc99", "y:c=99?10", 0);
        went("tn9;s", "y:c=0?10", 0);
    }

    // ---- who goes and comes

    private static void whoDoesNotKnow() {
        went("tn9;sk0", "y:0", 0);
        went("tn9;sk1", "y:0", NONE);
        went("tn9;sm9k0", "y:0", 0, 0, 0, 0, 0, 0, 0, 0, 0);
        for (long seed = 0; seed < 20; seed++) {
            ThirdComer x = Check.with("tn9;sm3k0;s", "y:5");
            x.start(0, 0, 0, seed);
            x.minutes(1);
            Check.due("12: they have no draw", firstDraw(seed) < 5 ? 0 : NONE, x.who(3, WENT));
        }
        ThirdComer x = Check.with("tn9;sk0");
        x.start(0, 0, 0, 0L);
        Check.due("12: not ahead of minute 0", NONE, x.who(0, WENT));
        x.minutes(1);
        Check.due("12: without any way", 0, x.who(0, WENT));
    }

    private static void everyDistance() {
        for (int distance = 0; distance <= 9; distance++) {
            ThirdComer x = begun("tn1;sd" + distance, "y:t=2?10");
            x.minutes(2);
            who(x, "ahead of going", 0, WAITS, NONE, NONE, NONE, 0);
            Check.due("12: it goes", 1, x.minutes(1));
            if (distance > 0) {
                who(x, "it went", 0, ON_THE_WAY, 2, NONE, NONE, 0);
            }
            Check.due("12: the minutes till it comes", Math.max(0, distance - 1), x.minutes(61));
            who(x, "distance " + distance, 0, IS_THERE, 2, 2 + distance, 1, 1);
            Check.due("14: in that minute", 2 + distance, x.about(6));
        }
    }

    private static void distanceNought() {
        ThirdComer x = begun("tn3;sm2d0;sd1;sd0", "y:10");
        x.minutes(1);
        who(x, "at once", 0, IS_THERE, 0, 0, 1, 0);
        who(x, "at once", 1, IS_THERE, 0, 0, 2, 0);
        who(x, "not at once", 2, ON_THE_WAY, 0, NONE, NONE, 0);
        who(x, "at once, ahead of who is on the way", 3, IS_THERE, 0, 0, 3, 1);
        Check.due("12: over in minute 1", 0, x.minutes(1));
        who(x, "comes in the minute in which it is over", 2, IS_THERE, 0, 1, 4, 0);
    }

    private static void nobodyGoesWhenAllIsHad() {
        went("tn1;sm3d0", "y:10", 0, NONE, NONE);
        went("tn2;sm3d0", "y:10", 0, 0, NONE);
        went("tn3;sm3d0", "y:10", 0, 0, 0);
        went("tn1p2;sm4d0", "y:10", 0, 0, NONE, NONE);
        went("tn1p3;sm4d0", "y:10", 0, 0, 0, NONE);
        went("tn1;sm2d0k0;sk0", "y:10", 0, NONE, NONE);
        went("tn1;sd1;sd0;sd1", "y:10", 0, 0, NONE);
        went("tn1;sm3d1", "y:10", 0, 0, 0);
        ThirdComer x = begun("tn1;sm2d0", "y:10");
        x.minutes(1);
        about(x, "all is had in minute 0, which has gone by", 1, 1, 1, 0, 1, 0, 0, 0);
        Check.due("12: over in minute 1", 0, x.minutes(61));
        about(x, "over", 1, 1, 1, 0, 1, 1, 0, 0);
    }

    private static void comesInTheLastMinute() {
        for (int distance = 1; distance <= 9; distance++) {
            ThirdComer x = begun("tn1w99f1;sd" + distance, "y:t=" + (60 - distance) + "?10");
            Check.due("12: over in minute 60", 60, x.minutes(61));
            who(x, "in minute 60", 0, IS_THERE, 60 - distance, 60, 1, 1, 39);
            about(x, "in minute 60", 60, 1, 0, 0, 1, 1, 60, 0);
            x = begun("tn1w99f1;sd" + distance, "y:t=" + (61 - distance) + "?10");
            Check.due("12: behind minute 60", 61, x.minutes(61));
            who(x, "too late", 0, ON_THE_WAY, 61 - distance, NONE, NONE, 0, 0);
            about(x, "too late", 61, 0, 0, 1, 0, 1, NONE, NONE);
            Check.due("12: no more minutes", 0, x.minutes(61));
            who(x, "never", 0, ON_THE_WAY, 61 - distance, NONE, NONE, 0, 0);
        }
    }

    private static void goesInTheLastMinute() {
        ThirdComer x = begun("tn1w99f1;sm2d0", "y:t=60?10");
        Check.due("12: sixty", 60, x.minutes(60));
        about(x, "ahead of minute 60", 60, 0, 2, 0, 0, 0, NONE, NONE);
        Check.due("12: minute 60", 1, x.minutes(1));
        about(x, "behind minute 60", 61, 1, 1, 0, 1, 1, 60, 0);
        who(x, "at once", 0, IS_THERE, 60, 60, 1, 1, 39);
        who(x, "nobody goes any more", 1, WAITS, NONE, NONE, NONE, 0, 0);
        x = begun("tn1;sd1", "y:t=60?10");
        Check.due("12: all", 61, x.minutes(61));
        who(x, "on the way for good", 0, ON_THE_WAY, 60, NONE, NONE, 0);
    }

    // ---- minutes that go by, and when it is over

    private static void minutesOneToSixtyOne() {
        for (int n = 0; n <= 62; n++) {
            ThirdComer x = begun("tn9;s", "y:0");
            boolean there = n >= 1 && n <= 61;
            Check.due("12: minutes(" + n + ")", there ? n : NONE, x.minutes(n));
            about(x, "behind minutes(" + n + ")", there ? n : 0, 0, 1, 0, 0, n == 61 ? 1 : 0, NONE, NONE);
            Check.due("12: the rest", there ? 61 - n : 61, x.minutes(61));
            Check.due("12: none more", 0, x.minutes(1));
            Check.due("12: none more", 0, x.minutes(61));
            Check.due("12: refused all the same", NONE, x.minutes(62));
            Check.due("12: refused all the same", NONE, x.minutes(0));
        }
    }

    private static void overWhenAllPlacesAreHad() {
        ThirdComer x = begun("tn2p2;sd1k0;sd2k0;sd3k0;sd4k0;s");
        int[] gone = {1, 1, 1, 0, 0};
        int[] here = {0, 1, 2, 3, 3};
        int[] had = {0, 0, 1, 2, 2};
        for (int minute = 0; minute < 5; minute++) {
            Check.due("12: minute " + minute, gone[minute], x.minutes(1));
            Check.due("14: here in " + minute, here[minute], x.about(1));
            Check.due("14: had in " + minute, had[minute], x.about(4));
            Check.due("14: over in " + minute, minute < 3 ? 0 : 1, x.about(5));
            Check.due("14: the last place in " + minute, minute < 3 ? NONE : 3, x.about(6));
        }
        who(x, "it would come in minute 4", 3, ON_THE_WAY, 0, NONE, NONE, 0);
        Check.due("14: minutes gone by", 3, x.about(0));
    }

    private static void overWhenAllCame() {
        ThirdComer x = begun("tn9;sm3d2k0");
        Check.due("12: two minutes", 2, x.minutes(61));
        about(x, "all came", 2, 3, 0, 0, 0, 1, NONE, NONE);
        x = begun("tn2;sd0k0");
        Check.due("12: minute 0", 1, x.minutes(61));
        about(x, "all came at once", 1, 1, 0, 0, 0, 1, NONE, NONE);
        x = begun("tn2;sd0k0");
        Check.due("12: minute 0 alone", 1, x.minutes(1));
        Check.due("14: it is over in minute 1, not behind minute 0", 0, x.about(5));
        Check.due("12: minute 1 does not go by", 0, x.minutes(1));
        Check.due("14: over now", 1, x.about(5));
    }

    private static void notOverWhileOneIsOnTheWay() {
        ThirdComer x = begun("tn9;sd9k0");
        for (int minute = 0; minute < 9; minute++) {
            Check.due("12: on the way in " + minute, 1, x.minutes(1));
            Check.due("14: not over in " + minute, 0, x.about(5));
        }
        Check.due("12: it comes in 9", 0, x.minutes(1));
        Check.due("14: over", 1, x.about(5));
        x = begun("tn9;sd1k0;s");
        Check.due("12: one waits", 61, x.minutes(61));
    }

    // ---- places and gains

    /** Twelve who come in minute 1, by every NTH and all PLACES. */
    private static void ranksThatHaveAPlace() {
        for (int nth = 1; nth <= 9; nth++) {
            for (int places = 1; places <= 3; places++) {
                ThirdComer x = ran("tn" + nth + "p" + places + ";sm9k0;sm3k0");
                for (int person = 0; person < 12; person++) {
                    int rank = person + 1;
                    int has = rank >= nth && rank <= nth + places - 1 ? 1 : 0;
                    Check.due("13: rank", rank, x.who(person, RANK));
                    Check.due("13: " + rank + " by " + nth + " and " + places, has, x.who(person, HAS));
                    Check.due("13: gain of " + rank, has * 100, x.who(person, GAIN));
                }
                about(x, "by " + nth + " and " + places, 1, 12, 0, 0, places, 1, 1, nth + places - 2);
            }
        }
    }

    private static void fewerThanThePlaces() {
        for (int many = 1; many <= 9; many++) {
            // The third, fourth and fifth have it.
            ThirdComer x = ran("tn3p3;sm" + many + "k0");
            int had = Math.max(0, Math.min(3, many - 2));
            about(x, many + " came", 1, many, 0, 0, had, 1, had == 3 ? 1 : NONE, had == 0 ? NONE : had + 1);
            Check.due("13: the last who came", many >= 3 && many <= 5 ? 1 : 0, x.who(many - 1, HAS));
        }
    }

    private static void worthNoLessThanNothing() {
        int[] due = {10, 7, 4, 1, 0, 0, 0, 0, 0, 0};
        for (int distance = 0; distance <= 9; distance++) {
            ThirdComer x = ran("tn1w10f3;sd" + distance + "k0");
            Check.due("13: worth in " + distance, due[distance], x.who(0, GAIN));
            Check.due("13: it has it all the same", 1, x.who(0, HAS));
        }
        Check.due("13: just nothing", 0, ran("tn1w9f3;sd3k0").who(0, GAIN));
        Check.due("13: one above", 1, ran("tn1w10f3;sd3k0").who(0, GAIN));
        Check.due("13: below nothing", 0, ran("tn1w8f3;sd3k0").who(0, GAIN));
        Check.due("13: worth most", 999, ran("tn1w999f0;sd9k0").who(0, GAIN));
        Check.due("13: worth nothing", 0, ran("tn1w0f99;sd9k0").who(0, GAIN));
        Check.due("13: cost is not bounded by it", -2 * 99, ran("tn1w1f99;sd9c99", "y:t=2?10").who(0, GAIN));
    }

    private static void costOfWaiting() {
        ThirdComer x = begun("tn9w100;sc99;sc1;sc0", "y:0");
        for (int person = 0; person < 3; person++) {
            Check.due("13: ahead of minute 0", 0, x.who(person, GAIN));
        }
        x.minutes(61);
        Check.due("13: 61 minutes at 99", -99 * 61, x.who(0, GAIN));
        Check.due("13: 61 minutes at 1", -61, x.who(1, GAIN));
        Check.due("13: 61 minutes at 0", 0, x.who(2, GAIN));
        x = ran("tn1w100;sd9k0;sc2", "y:0");
        Check.due("13: over in minute 9: 9 have gone by", -18, x.who(1, GAIN));
        x = ran("tn1w100;sd0k0;sc2", "y:0");
        Check.due("13: over in minute 1: 1 has gone by", -2, x.who(1, GAIN));
        x = ran("tn9;sc2d9", "y:t=60?10");
        Check.due("13: till it went", -120, x.who(0, GAIN));
        x = ran("tn9;sc2d9", "y:t=0?10");
        Check.due("13: it went at once", 0, x.who(0, GAIN));
        x = ran("tn1;sc2d9", "y:t=1?10");
        Check.due("13: not till it came", 100 - 2, x.who(0, GAIN));
    }

    // ---- what is asked

    private static void startOfEachThingAndLook() {
        ThirdComer x = Check.with("tn1;tn2;sm3k0", "tn3;sm4k0");
        int[][] last = {{0, 1}, {2}};
        for (int village = -1; village <= 2; village++) {
            for (int thing = -1; thing <= 2; thing++) {
                for (int look = -1; look <= 2; look++) {
                    boolean there = village >= 0 && village < 2 && thing >= 0 && thing < last[village].length;
                    boolean good = there && look >= 0 && look < 2;
                    Check.due("11: start", good ? 1 : 0, x.start(village, thing, look, 1L) ? 1 : 0);
                    if (good) {
                        about(x, "ahead of minute 0", 0, 0, village == 0 ? 3 : 4, 0, 0, 0, NONE, NONE);
                        x.minutes(61);
                        Check.due("14: by its NTH", last[village][thing], x.about(7));
                    }
                }
            }
        }
    }

    private static void statesOfOne() {
        ThirdComer x = begun("tn2w50f1;sd3c2", "y:t=2?10");
        who(x, "ahead of minute 0", 0, WAITS, NONE, NONE, NONE, 0, 0);
        x.minutes(2);
        who(x, "waits", 0, WAITS, NONE, NONE, NONE, 0, -4);
        x.minutes(1);
        who(x, "on the way", 0, ON_THE_WAY, 2, NONE, NONE, 0, -4);
        x.minutes(2);
        who(x, "still on the way", 0, ON_THE_WAY, 2, NONE, NONE, 0, -4);
        x.minutes(1);
        who(x, "came as the first", 0, IS_THERE, 2, 5, 1, 0, -4);
        for (int what = -1; what <= 6; what += 7) {
            Check.due("13: no such what", HIDDEN, x.who(0, what));
        }
        Check.due("13: none ahead of the first", HIDDEN, x.who(-1, STATE));
        Check.due("13: none behind the last", HIDDEN, x.who(1, STATE));
        x = begun("tn9;sm9;sm9;sm2", "y:10");
        x.minutes(61);
        Check.due("13: the twentieth", 20, x.who(19, RANK));
        Check.due("13: the twentieth came", 1, x.who(19, CAME));
        Check.due("13: no 21st", HIDDEN, x.who(20, RANK));
    }

    private static void aboutTheMorning() {
        ThirdComer x = begun("tn1p2;sd0k0;sd5k0;s", "y:0");
        about(x, "ahead of minute 0", 0, 0, 3, 0, 0, 0, NONE, NONE);
        x.minutes(1);
        about(x, "one of two places", 1, 1, 1, 1, 1, 0, NONE, 0);
        x.minutes(4);
        about(x, "still one", 5, 1, 1, 1, 1, 0, NONE, 0);
        x.minutes(1);
        about(x, "both places", 5, 2, 1, 0, 2, 1, 5, 1);
        Check.due("14: no such what", HIDDEN, x.about(-1));
        Check.due("14: no such what", HIDDEN, x.about(8));
    }

    // ---- images

    private static void imageOfTheFirstAndTheLastMinute() {
        ThirdComer x = begun("tn9;sm2d3c1", "y:1");
        Check.due("50: ahead of minute 0", 0, x.image());
        x.minutes(61);
        int went = x.who(1, WENT);
        Check.due("51: ahead of minute 0", 0, x.back());
        about(x, "ahead of minute 0", 0, 0, 2, 0, 0, 0, NONE, NONE);
        who(x, "ahead of minute 0", 1, WAITS, NONE, NONE, NONE, 0, 0);
        x.minutes(61);
        Check.due("51: by the same draws", went, x.who(1, WENT));
        x = ran("tn9;sm2d3c1", "y:0");
        Check.due("50: behind minute 60", 61, x.image());
        x.start(0, 0, 0, 1L);
        Check.due("51: behind minute 60", 61, x.back());
        about(x, "behind minute 60", 61, 0, 2, 0, 0, 1, NONE, NONE);
        Check.due("51: over", 0, x.minutes(1));
    }

    private static void imageInsteadOfTheOneAhead() {
        ThirdComer x = begun("tn9;s", "tn9;sm4", "y:0");
        Check.due("51: no image", NONE, x.back());
        x.minutes(2);
        Check.due("50: the first", 2, x.image());
        x.minutes(3);
        Check.due("50: the second", 5, x.image());
        x.minutes(3);
        Check.due("51: the second", 5, x.back());
        x.start(1, 0, 1, 1L);
        x.minutes(1);
        Check.due("50: of the other village", 1, x.image());
        x.start(0, 0, 0, 1L);
        Check.due("52: one of the people", 1, x.count(5));
        Check.due("51: of the other village", 1, x.back());
        Check.due("52: four of them", 4, x.count(5));
    }

    private static void backAgainAndAgain() {
        ThirdComer x = begun("tn3p2w80f1;sm3d2c1;sm2", "y:2");
        x.minutes(2);
        x.image();
        int[] first = null;
        for (int i = 0; i < 3; i++) {
            int more = x.minutes(61);
            Check.due("12: all that is left", x.about(0) - 2, more);
            int[] went = {x.who(0, WENT), x.who(1, WENT), x.who(2, WENT), x.who(3, WENT), x.who(4, WENT), x.about(6)};
            first = first == null ? went : first;
            for (int k = 0; k < went.length; k++) {
                Check.due("51: as the first time", first[k], went[k]);
            }
            Check.due("51: back", 2, x.back());
            Check.due("51: back at once", 2, x.back());
        }
    }

    private static void theLastOf512Calls() {
        ThirdComer x = Check.with("tn2w50;sm3k0");
        // With texts 3 calls are done: feed, text, and the tape's count.
        x.start(0, 0, 0, 0L);
        x.minutes(61);
        for (int call = 6; call < 512; call++) {
            Check.due("14: call " + call, 1, x.about(7));
        }
        Check.due("13: the last of 512 calls", 50, x.who(1, GAIN));
    }
}
