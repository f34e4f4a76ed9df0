/** Promises 11 to 14, 50 and 51: mornings minute by minute, ways as they are followed, images. */
public final class MorningTest {
    private static final int NONE = Check.NONE;
    private static final int HIDDEN = Check.HIDDEN;
    private static final int STATE = 0;
    private static final int WENT = 1;
    private static final int CAME = 2;
    private static final int RANK = 3;
    private static final int HAS = 4;
    private static final int GAIN = 5;

    /** The draws as the document tells them. */
    private static final class Draws {
        private long x;

        Draws(long seed) {
            x = seed;
        }

        int next() {
            x = x * 6364136223846793005L + 1442695040888963407L;
            return (int) ((x >>> 33) % 10);
        }
    }

    public static void main(String[] args) {
        startRefused();
        nothingBegan();
        minutesRefused();
        drawsInTheirOrder();
        noDrawForWhoDoesNotKnow();
        aSortWithoutItsWayDraws();
        letters();
        lettersWithinAMinute();
        look();
        sums();
        conditions();
        clauses();
        distanceNought();
        distances();
        comersOfAMinute();
        places();
        placesNotAllHad();
        overWhenAllCame();
        behindTheLastMinute();
        gains();
        refusedQuestions();
        waysChangeAtOnce();
        startAgain();
        images();
        imagesOfAll();
        twentyOfSixSorts();
        Check.finish();
    }

    private static void who(ThirdComer x, String text, int person, int... due) {
        for (int what = 0; what < due.length; what++) {
            Check.due("13: " + text + ": who(" + person + ", " + what + ")", due[what], x.who(person, what));
        }
    }

    private static void about(ThirdComer x, String text, int... due) {
        for (int what = 0; what < due.length; what++) {
            Check.due("14: " + text + ": about(" + what + ")", due[what], x.about(what));
        }
    }

    /** A morning of a new object with these texts, run to its end. */
    private static ThirdComer ran(String... texts) {
        ThirdComer x = Check.with(texts);
        Check.yes("11: start", x.start(0, 0, 0, 0L));
        x.minutes(61);
        return x;
    }

    private static void startRefused() {
        ThirdComer x = new ThirdComer();
        Check.no("11: no village", x.start(0, 0, 0, 0L));
        x = Check.with("t;t;s");
        Check.no("11: no such village", x.start(1, 0, 0, 0L));
        Check.no("11: village below 0", x.start(-1, 0, 0, 0L));
        Check.no("11: no such thing", x.start(0, 2, 0, 0L));
        Check.no("11: thing below 0", x.start(0, -1, 0, 0L));
        Check.no("11: no such look", x.start(0, 0, 2, 0L));
        Check.no("11: look below 0", x.start(0, 0, -1, 0L));
        Check.due("11: none began", NONE, x.count(5));
        Check.yes("11: thing 1", x.start(0, 1, 1, Long.MIN_VALUE));
        about(x, "ahead of minute 0", 0, 0, 1, 0, 0, 0, NONE, NONE);
        who(x, "ahead of minute 0", 0, 0, NONE, NONE, NONE, 0, 0);
        x.minutes(5);
        Check.no("11: refused", x.start(0, 2, 0, 0L));
        Check.due("11: refused changes nothing", 5, x.about(0));
    }

    private static void nothingBegan() {
        ThirdComer x = Check.with("t;s", "y:1");
        Check.due("12: none began", NONE, x.minutes(1));
        Check.due("13: none began", HIDDEN, x.who(0, 0));
        for (int what = 0; what < 8; what++) {
            Check.due("14: none began", HIDDEN, x.about(what));
        }
    }

    private static void minutesRefused() {
        ThirdComer x = Check.with("t;s");
        x.start(0, 0, 0, 0L);
        for (int n : new int[] {0, -1, 62, Integer.MIN_VALUE, Integer.MAX_VALUE}) {
            Check.due("12: out of bounds " + n, NONE, x.minutes(n));
        }
        Check.due("12: refused changes nothing", 0, x.about(0));
        Check.due("12: all", 61, x.minutes(61));
        Check.due("12: none behind the end", 0, x.minutes(1));
        Check.due("12: out of bounds behind the end", NONE, x.minutes(62));
        x.start(0, 0, 0, 0L);
        for (int i = 0; i < 6; i++) {
            Check.due("12: ten", 10, x.minutes(10));
        }
        Check.due("12: not over in front of minute 60", 0, x.about(5));
        Check.due("12: the last one", 1, x.minutes(10));
        Check.due("12: over behind minute 60", 1, x.about(5));
        Check.due("12: 61 have gone by", 61, x.about(0));
    }

    /** Three who never have it, each going by a draw below 2. */
    private static void drawsInTheirOrder() {
        for (long seed : new long[] {0, 1, 5, -1, 123456789012345L, Long.MIN_VALUE, Long.MAX_VALUE}) {
            ThirdComer x = Check.with("tn9;sm2d1;sd1", "y:2");
            x.start(0, 0, 0, seed);
            x.minutes(61);
            Draws draws = new Draws(seed);
            int[] went = {NONE, NONE, NONE};
            for (int minute = 0; minute <= 60; minute++) {
                for (int person = 0; person < 3; person++) {
                    if (went[person] == NONE && draws.next() < 2) {
                        went[person] = minute;
                    }
                }
            }
            for (int person = 0; person < 3; person++) {
                Check.due("12: draws by seed " + seed, went[person], x.who(person, WENT));
            }
        }
    }

    private static void noDrawForWhoDoesNotKnow() {
        ThirdComer x = Check.with("tn9;sk0;sm2;sk0;s", "y:3");
        x.start(0, 0, 0, 77L);
        x.minutes(61);
        Draws draws = new Draws(77L);
        int[] went = {0, NONE, NONE, 0, NONE};
        for (int minute = 0; minute <= 60; minute++) {
            for (int person = 0; person < 5; person++) {
                if (went[person] == NONE && draws.next() < 3) {
                    went[person] = minute;
                }
            }
        }
        for (int person = 0; person < 5; person++) {
            Check.due("12: with some who do not know", went[person], x.who(person, WENT));
        }
    }

    private static void aSortWithoutItsWayDraws() {
        ThirdComer x = Check.with("tn9;s;s", "y:1");
        x.way(0, 3);
        x.start(0, 0, 0, 4L);
        x.minutes(61);
        Draws draws = new Draws(4L);
        int went = NONE;
        for (int minute = 0; minute <= 60; minute++) {
            draws.next();
            if (went == NONE && draws.next() < 1) {
                went = minute;
            }
        }
        Check.due("12: beside one without a way", went, x.who(1, WENT));
        Check.due("12: without a way it never goes", NONE, x.who(0, WENT));
    }

    private static void went(String way, String village, int... due) {
        ThirdComer x = ran(village, way);
        for (int person = 0; person < due.length; person++) {
            Check.due("12: {" + way + "} in {" + village + "}, " + person, due[person], x.who(person, WENT));
        }
    }

    private static void letters() {
        went("y:t=3?10", "t;s", 3);
        went("y:h>0?10", "tn9;sk0d2;s", 0, 2);
        went("y:h=2?10", "tn9;sm2k0d4;s", 0, 0, 4);
        went("y:t=n?10", "tn4;s", 4);
        went("y:r=0?10", "tn9;sm3;s", NONE, NONE, NONE, 0);
        went("y:o=3?10", "tn9;sm3;s", 0, NONE, NONE, NONE);
        went("y:v<80?10", "tw100f7;s", 3);
        went("y:v=0?10", "tw10f9;s", 2);
        went("y:v<0?10", "tw10f99;s", NONE);
        went("y:t=c?10", "t;sc4;sc2", 4, 2);
        went("y:g=0&t=2?10", "tn9;sk0d9;s", 0, 2);
    }

    /** Who goes in a minute counts for those behind it in the same minute. */
    private static void lettersWithinAMinute() {
        went("y:r<2?10;y:o>4?10", "tn9;sm3;sm3", 0, 0, 0, NONE, NONE, NONE);
        went("y:h=0&o=3?10;y:h=1&t=0?10", "tn9;sm4d0", 0, 0, NONE, NONE);
        went("y:r=2?10;y:t=1&r=1?10", "tn9;sm3", 0, 1, NONE);
    }

    private static void look() {
        for (int look = 0; look < 2; look++) {
            ThirdComer x = Check.with("tn9;sk0d5;sm2", "y:g=1?10;y:t=3&g=0?10");
            x.start(0, 0, look, 0L);
            x.minutes(61);
            Check.due("12: look " + look, look == 1 ? 0 : 3, x.who(1, WENT));
            Check.due("12: look " + look, look == 1 ? 1 : 3, x.who(2, WENT));
        }
        ThirdComer x = Check.with("tn9;sk0d5;sk0d2;s", "y:g=2?10");
        x.start(0, 0, 1, 0L);
        x.minutes(1);
        Check.due("12: two on the way", 0, x.who(2, WENT));
    }

    /** A sum holds if one who asks whether it is so goes in minute 0. */
    private static void holds(boolean due, String condition) {
        ThirdComer x = ran("tn9w100;sc7", "y:" + condition + "?10");
        Check.due("12: " + condition, due ? 0 : NONE, x.who(0, WENT));
    }

    private static void sums() {
        holds(true, "2+3*4=14");
        holds(true, "2*3+4=10");
        holds(true, "10-2-3=5");
        holds(true, "10-[2-3]=11");
        holds(true, "100/5/2=10");
        holds(true, "100/[5/2]=50");
        holds(true, "2*[3+4]=14");
        holds(true, "8/3*3=6");
        holds(true, "7/2=3");
        holds(true, "[0-7]/2=0-3");
        holds(true, "7/[0-2]=0-3");
        holds(true, "5/0=0");
        holds(true, "[0-5]/[3-3]=0");
        holds(true, "0007=c");
        holds(true, "9999*101/101=9900");
        holds(true, "[0-9999]*101/101=0-9900");
        holds(true, "9999*100+100=9999*100+9999");
        holds(true, "9999*100+100-1<9999*100+100");
        holds(true, "9999*100+9999-1=[9999*100+100]-1");
        holds(true, "0-9999*100-9999+1=1-1000*1000");
        holds(true, "1000*1000=1001*1000");
        holds(true, "1000*999<1000*1000");
        holds(true, "9999*9999*9999*9999/1000=1000");
        holds(true, "[0-1000]*1000=[0-1000]*1001");
        holds(false, "0-1000*1000>0-1000*1000+0");
        holds(true, "v*v=9999+1");
    }

    private static void conditions() {
        holds(false, "1=2");
        holds(true, "1=1");
        holds(false, "1<1");
        holds(true, "1<2");
        holds(false, "2<1");
        holds(false, "1>1");
        holds(false, "1>2");
        holds(true, "2>1");
        holds(true, "1=1&2=2");
        holds(false, "1=1&1=2");
        holds(false, "1=2&1=1");
        holds(true, "1=2|1=1");
        holds(true, "1=1|1=2");
        holds(false, "1=2|1=3");
        holds(true, "1=2&1=2|1=1");
        holds(true, "1=1|1=2&1=2");
        holds(false, "(1=1|1=2)&1=2");
        holds(false, "1=2&(1=2|1=1)");
        holds(true, "!1=2");
        holds(false, "!1=1");
        holds(true, "!!1=1");
        holds(true, "!1=1|1=1");
        holds(false, "!(1=1|1=1)");
        holds(true, "!1=2&1=1");
        holds(true, "!(1=2&1=1)");
        holds(true, "(((1=1)))");
        holds(true, "1=2|1=2|1=1");
        holds(false, "1=1&1=1&1=2");
        holds(true, "!(!(1=1)|1=2)&(1<2|1>2)");
        holds(true, " ! ( 1 = 2 ) & c = 7 ");
    }

    private static void clauses() {
        went("y:t=0?0;y:t=1?10;y:0", "t;s", 1);
        went("y:1=1?0;y:10", "t;s", NONE);
        went("y:0;y:10", "t;s", NONE);
        went("y:t=2?10;y:t=1?0;y:t=3?10;y:t=0?0", "t;s", 2);
        went("y:t>60?10", "t;s", NONE);
        went("y:0-5", "t;s", NONE);
        went("y:9999*9999", "t;s", 0);
        went("y:10", "t;s", 0);
        went("y:t=1&h=0&r=0?5+5;y:t-t", "t;s", 1);
        went("y:(t=1)?[10];y:!t=0?[0];y:0", "t;s", 1);
    }

    private static void distanceNought() {
        ThirdComer x = Check.with("tn1w50;sm3d0c2", "y:10");
        x.start(0, 0, 0, 0L);
        Check.due("12: minute 0", 1, x.minutes(1));
        who(x, "the first", 0, 2, 0, 0, 1, 1, 50);
        who(x, "nobody goes any more", 1, 0, NONE, NONE, NONE, 0, -2);
        about(x, "behind minute 0", 1, 1, 2, 0, 1, 0, 0, 0);
        Check.due("12: over in minute 1", 0, x.minutes(1));
        about(x, "over", 1, 1, 2, 0, 1, 1, 0, 0);
        who(x, "still", 2, 0, NONE, NONE, NONE, 0, -2);
        x = Check.with("tn2p2;sm2d0;sk0m2d0", "y:10");
        x.start(0, 0, 0, 0L);
        x.minutes(1);
        Check.due("12: the second place", 1, x.who(2, HAS));
        Check.due("12: not even who does not know", NONE, x.who(3, WENT));
    }

    private static void distances() {
        ThirdComer x = Check.with("tn1w50f3;sd9c1", "y:t=2?10");
        x.start(0, 0, 0, 0L);
        Check.due("12: as far as minute 3", 3, x.minutes(3));
        who(x, "on the way", 0, 1, 2, NONE, NONE, 0, -2);
        about(x, "on the way", 3, 0, 0, 1, 0, 0, NONE, NONE);
        Check.due("12: till it comes", 8, x.minutes(61));
        who(x, "came", 0, 2, 2, 11, 1, 1, 50 - 33 - 2);
        about(x, "came", 11, 1, 0, 0, 1, 1, 11, 0);
    }

    private static void comersOfAMinute() {
        ThirdComer x = Check.with("tn2;sd1;sd3k0;sd2", "y:t=2&c=0?10");
        x.start(0, 0, 0, 0L);
        x.minutes(61);
        who(x, "by numbers", 0, 2, 2, 3, 1, 0);
        who(x, "by numbers", 1, 2, 0, 3, 2, 1);
        who(x, "too late", 2, 1, 2, NONE, NONE, 0);
        about(x, "over in minute 3", 3, 2, 0, 1, 1, 1, 3, 1);
        x = ran("tn1;sm4d2", "y:10");
        for (int person = 0; person < 4; person++) {
            who(x, "all of the minute come", person, 2, 0, 2, person + 1, person == 0 ? 1 : 0);
        }
    }

    private static void places() {
        ThirdComer x = ran("tn2p2w20f4;sm4c1", "y:10");
        int[] has = {0, 1, 1, 0};
        for (int person = 0; person < 4; person++) {
            who(x, "two places", person, 2, 0, 1, person + 1, has[person], has[person] * 16);
        }
        about(x, "two places", 1, 4, 0, 0, 2, 1, 1, 2);
        x = Check.with("tn1p3;sd1k0;sd2k0;sd5k0;s");
        x.start(0, 0, 0, 0L);
        x.minutes(5);
        about(x, "two of three", 5, 2, 1, 1, 2, 0, NONE, 1);
        x.minutes(5);
        about(x, "three of three", 5, 3, 1, 0, 3, 1, 5, 2);
    }

    private static void placesNotAllHad() {
        ThirdComer x = Check.with("tn2p3;sd1k0;sd2k0;s");
        x.start(0, 0, 0, 0L);
        x.minutes(2);
        about(x, "none had", 2, 1, 1, 1, 0, 0, NONE, NONE);
        x.minutes(61);
        about(x, "one had", 61, 2, 1, 0, 1, 1, NONE, 1);
    }

    private static void overWhenAllCame() {
        ThirdComer x = Check.with("tn9;sm2d1;sd4k0", "y:10");
        x.start(0, 0, 0, 0L);
        Check.due("12: till all came", 4, x.minutes(61));
        about(x, "all came", 4, 3, 0, 0, 0, 1, NONE, NONE);
        x = Check.with("tn9;sd0", "y:10");
        x.start(0, 0, 0, 0L);
        Check.due("12: minute 0 goes by", 1, x.minutes(61));
        about(x, "came at once", 1, 1, 0, 0, 0, 1, NONE, NONE);
    }

    private static void behindTheLastMinute() {
        ThirdComer x = Check.with("tn1;sd3c2", "y:t=60?10");
        x.start(0, 0, 0, 0L);
        Check.due("12: all", 61, x.minutes(61));
        who(x, "on the way for good", 0, 1, 60, NONE, NONE, 0, -120);
        about(x, "on the way for good", 61, 0, 0, 1, 0, 1, NONE, NONE);
        x = Check.with("tn1w99f1;sd0c1", "y:t=60?10");
        x.start(0, 0, 0, 0L);
        Check.due("12: all", 61, x.minutes(61));
        who(x, "just in time", 0, 2, 60, 60, 1, 1, 39 - 60);
        about(x, "just in time", 61, 1, 0, 0, 1, 1, 60, 0);
        x = Check.with("tn1w99f1;sd1", "y:t=59?10");
        x.start(0, 0, 0, 0L);
        Check.due("12: over in minute 60", 60, x.minutes(61));
        who(x, "in minute 60", 0, 2, 59, 60, 1, 1, 39);
        about(x, "in minute 60", 60, 1, 0, 0, 1, 1, 60, 0);
    }

    private static void gains() {
        ThirdComer x = ran("tn1w10f9;sd3c1", "y:t=1?10");
        who(x, "worth no less than 0", 0, 2, 1, 4, 1, 1, -1);
        x = Check.with("tn2w10;sc3", "y:t=4?10");
        x.start(0, 0, 0, 0L);
        for (int gone = 1; gone <= 4; gone++) {
            x.minutes(1);
            Check.due("13: waiting costs", -3 * gone, x.who(0, GAIN));
        }
        x.minutes(61);
        Check.due("13: till it went", -12, x.who(0, GAIN));
        Check.due("13: it came first", 1, x.who(0, RANK));
        Check.due("13: when it came", 5, x.who(0, CAME));
        Check.due("13: so it has nothing", 0, x.who(0, HAS));
    }

    private static void refusedQuestions() {
        ThirdComer x = ran("t;sm2", "y:1");
        for (int person : new int[] {-1, 2, 20, Integer.MIN_VALUE, Integer.MAX_VALUE}) {
            Check.due("13: no such one", HIDDEN, x.who(person, STATE));
        }
        Check.due("13: no such what", HIDDEN, x.who(0, 6));
        Check.due("13: what below 0", HIDDEN, x.who(0, -1));
        Check.due("14: no such what", HIDDEN, x.about(8));
        Check.due("14: what below 0", HIDDEN, x.about(-1));
    }

    private static void waysChangeAtOnce() {
        ThirdComer x = Check.with("tn9;s", "y:0", "y:10");
        x.start(0, 0, 0, 0L);
        x.minutes(3);
        x.way(0, 1);
        x.minutes(1);
        Check.due("10: by its new way", 3, x.who(0, WENT));
        x = Check.with("tn9;s", "y:0", "y:0");
        x.way(0, 2);
        x.start(0, 0, 0, 0L);
        x.minutes(2);
        Check.feed(x, "y:10");
        x.text(1);
        x.minutes(1);
        Check.due("10: by a way that has come to be there", 2, x.who(0, WENT));
    }

    private static void startAgain() {
        ThirdComer x = Check.with("tn1;sm2d2", "tn2;t;sm3", "y:10");
        x.start(0, 0, 0, 0L);
        x.minutes(61);
        x.start(1, 0, 0, 0L);
        about(x, "begun anew", 0, 0, 3, 0, 0, 0, NONE, NONE);
        who(x, "begun anew", 0, 0, NONE, NONE, NONE, 0, 0);
        x.minutes(61);
        Check.due("11: NTH of the other village", 1, x.about(7));
        x.start(1, 1, 0, 0L);
        x.minutes(61);
        Check.due("11: NTH of the other thing", 2, x.about(7));
    }

    private static void images() {
        ThirdComer x = Check.with("tn3p2;sm4d2c1;s", "t;s", "y:2");
        Check.due("50: none began", NONE, x.image());
        Check.due("51: no image", NONE, x.back());
        x.start(0, 0, 1, 9L);
        Check.due("51: no image yet", NONE, x.back());
        x.minutes(3);
        Check.due("50: minutes gone by", 3, x.image());
        x.minutes(61);
        int[] ends = everything(x);
        Check.due("51: minutes gone by", 3, x.back());
        Check.due("51: so it stands again", 3, x.about(0));
        Check.due("51: not over", 0, x.about(5));
        x.minutes(61);
        same("51: and goes on alike", ends, everything(x));
        x.start(1, 0, 0, 1L);
        Check.due("51: of another village", 3, x.back());
        Check.due("51: with its people", 5, x.count(5));
        x.minutes(61);
        same("51: and goes on alike once more", ends, everything(x));
        Check.due("50: instead of the one ahead", x.about(0), x.image());
        x.start(1, 0, 0, 1L);
        x.back();
        same("51: the newer one", ends, everything(x));
    }

    /** An image has the thing, the look, the NTH and who waits of each sort. */
    private static void imagesOfAll() {
        String[] texts = {"tn1;tn2w70f1;sm3;sk0d4", "t;sm9", "y:g>0&r=2?10;y:h>0&v<70&n=2&r=1?10"};
        ThirdComer x = Check.with(texts);
        x.start(0, 1, 1, 0L);
        x.minutes(1);
        x.image();
        x.start(1, 0, 0, 0L);
        x.minutes(9);
        Check.due("51: back", 1, x.back());
        Check.due("51: who waits", 3, x.about(2));
        x.minutes(61);
        // In minute 1 the first of three goes, who comes in 2; then the second goes, and has it in 3.
        who(x, "back", 0, 2, 1, 2, 1, 0, 0);
        who(x, "back", 1, 2, 2, 3, 2, 1, 67);
        who(x, "back", 2, 0, NONE, NONE, NONE, 0, 0);
        about(x, "back", 3, 2, 1, 1, 1, 1, 3, 1);
    }

    private static void twentyOfSixSorts() {
        ThirdComer x = ran("tn9p3w99f1;sm9;sm7;s;s;s;sc1", "y:10");
        about(x, "twenty", 1, 20, 0, 0, 3, 1, 1, 10);
        for (int person = 0; person < 20; person++) {
            int has = person >= 8 && person <= 10 ? 1 : 0;
            who(x, "twenty", person, 2, 0, 1, person + 1, has, has * 98);
        }
        x = ran("tn9p3w99f1;sm9;sm7;s;s;s;sc1", "y:0");
        about(x, "twenty who stay", 61, 0, 20, 0, 0, 1, NONE, NONE);
        Check.due("13: the last one", -61, x.who(19, GAIN));
    }

    private static int[] everything(ThirdComer x) {
        int[] all = new int[8 + 5 * 6];
        for (int what = 0; what < 8; what++) {
            all[what] = x.about(what);
        }
        for (int i = 0; i < 30; i++) {
            all[8 + i] = x.who(i / 6, i % 6);
        }
        return all;
    }

    private static void same(String text, int[] due, int[] got) {
        for (int i = 0; i < due.length; i++) {
            Check.due(text + ", " + i, due[i], got[i]);
        }
    }
}
