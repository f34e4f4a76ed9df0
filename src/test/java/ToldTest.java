/** Promises 29 to 35 and 47 to 49: mornings told and judged, turns, and the round of all things. */
public final class ToldTest {
    private static final int NONE = Check.NONE;
    private static final int HIDDEN = Check.HIDDEN;

    public static void main(String[] args) {
        noneTold();
        tellRefused();
        cameRefused();
        threeOfThem();
        ranksByMinutesThenNumbers();
        placesAndWorth();
        answers();
        settle();
        settleFromElsewhere();
        ring();
        ringAtTheBound();
        twentyOfThem();
        between();
        round();
        roundOrder();
        roundOfFour();
        roundRefused();
        swap();
        crowd();
        free();
        apartFromTheMorning();
        Check.finish();
    }

    /** A morning told of a new object's village 0, thing 0, with the minutes people came. */
    private static ThirdComer told(String village, int... minutes) {
        ThirdComer x = Check.with(village);
        Check.yes("29: tell", x.tell(0, 0));
        for (int person = 0; person < minutes.length; person++) {
            Check.yes("30: came", x.came(person, minutes[person]));
        }
        return x;
    }

    private static void due(ThirdComer x, int person, int minute, int rank, int gain, int answer, int regret) {
        int[] due = {minute, rank, gain, answer, regret};
        for (int what = 0; what < 5; what++) {
            Check.due("31: told(" + person + ", " + what + ")", due[what], x.told(person, what));
        }
    }

    private static void noneTold() {
        ThirdComer x = Check.with("t;sm2", "y:1");
        x.start(0, 0, 0, 0L);
        Check.no("30: none told", x.came(0, 1));
        Check.due("31: none told", HIDDEN, x.told(0, 0));
        Check.due("32: none told", NONE, x.ill());
        Check.due("33: none told", NONE, x.settle());
        Check.due("35: none told", HIDDEN, x.round(0, 0));
        Check.due("47: none told", HIDDEN, x.swap(0, 1));
        Check.due("48: none told", NONE, x.crowd());
        Check.due("49: none told", NONE, x.free(0));
        Check.due("52: none told", NONE, x.count(6));
    }

    private static void tellRefused() {
        ThirdComer x = Check.with("t;t;sm2");
        for (int[] bad : new int[][] {{-1, 0}, {1, 0}, {0, -1}, {0, 2}, {Integer.MAX_VALUE, 0}, {0, Integer.MAX_VALUE}}) {
            Check.no("29: no such ones", x.tell(bad[0], bad[1]));
        }
        Check.due("29: none told", NONE, x.count(6));
        Check.yes("29: thing 1", x.tell(0, 1));
        x.came(0, 7);
        Check.no("29: refused", x.tell(0, 2));
        Check.due("29: refused changes nothing", 7, x.told(0, 0));
        Check.yes("29: again", x.tell(0, 0));
        Check.due("29: none came at first", NONE, x.told(0, 0));
    }

    private static void cameRefused() {
        ThirdComer x = told("t;sm2", 3, 4);
        for (int[] bad : new int[][] {{-1, 0}, {2, 0}, {20, 0}, {0, -2}, {0, 61}, {0, Integer.MIN_VALUE}}) {
            Check.no("30: no such ones", x.came(bad[0], bad[1]));
        }
        Check.due("30: refused changes nothing", 3, x.told(0, 0));
        Check.yes("30: 0", x.came(0, 0));
        Check.due("31: 0", 0, x.told(0, 0));
        Check.yes("30: 60", x.came(0, 60));
        Check.due("31: 60", 60, x.told(0, 0));
        Check.yes("30: it did not", x.came(0, NONE));
        Check.due("31: it did not", NONE, x.told(0, 0));
        for (int person : new int[] {-1, 2, Integer.MAX_VALUE}) {
            Check.due("31: no such one", HIDDEN, x.told(person, 0));
            Check.due("49: no such one", NONE, x.free(person));
        }
        Check.due("31: no such what", HIDDEN, x.told(0, 5));
        Check.due("31: what below 0", HIDDEN, x.told(0, -1));
    }

    private static void threeOfThem() {
        ThirdComer x = told("tn2w50f3;sm3c2", 4, 4);
        // 0 comes first; in 5 it would be the second: 35 less 10. 1 is the second: 38 less 8.
        due(x, 0, 4, 1, -8, 5, 33);
        due(x, 1, 4, 2, 30, 4, 0);
        // 2 did not come; it would be the first or third, which is best at once.
        due(x, 2, NONE, NONE, -120, 0, 120);
        Check.due("32: 0 and 2", 5, x.ill());
        x.came(2, 0);
        // Now 0 is the second with 30; it would be so from 0 on, with 50.
        due(x, 0, 4, 2, 30, 1, 15);
        Check.due("32: 0 and 1", 3, x.ill());
        Check.due("49: first of all but 2", 1, x.free(0));
    }

    private static void ranksByMinutesThenNumbers() {
        ThirdComer x = told("tn3;sm3;sm3", 9, 2, 60, 2, NONE, 0);
        int[] ranks = {4, 2, 5, 3, NONE, 1};
        for (int person = 0; person < 6; person++) {
            Check.due("31: rank of " + person, ranks[person], x.told(person, 1));
        }
        Check.due("31: the third has it", 100, x.told(3, 2));
        Check.due("31: the second has nothing", 0, x.told(1, 2));
        Check.due("31: the fourth has nothing", 0, x.told(0, 2));
    }

    private static void placesAndWorth() {
        ThirdComer x = told("tw1;tn2p2w20f6;sm4c1", 1, 2, 3, 3);
        x.tell(0, 1);
        int[] minutes = {1, 2, 5, 5};
        for (int person = 0; person < 4; person++) {
            x.came(person, minutes[person]);
        }
        int[] gains = {-1, 8 - 2, 0 - 5, -5};
        for (int person = 0; person < 4; person++) {
            Check.due("31: gain of " + person, gains[person], x.told(person, 2));
        }
        x.came(1, NONE);
        Check.due("31: who did not come", -60, x.told(1, 2));
        Check.due("31: the next one has it, worth nothing", -5, x.told(3, 2));
        x.came(3, 60);
        Check.due("31: in minute 60", -60, x.told(3, 2));
    }

    private static void answers() {
        ThirdComer x = told("tn1w50f1;sm2c0", 5, 7);
        due(x, 0, 5, 1, 45, 0, 5);
        due(x, 1, 7, 2, 0, 0, 50);
        x = told("tn2w50;sm2", 5, NONE);
        // Nothing falls or costs: all minutes from 5 on are as good, all ahead of it are worth nothing.
        due(x, 1, NONE, NONE, 0, 5, 50);
        due(x, 0, 5, 1, 0, 0, 0);
        x = told("tn9w50;sm2", NONE, NONE);
        Check.due("31: to come is no less than not to", 0, x.told(0, 3));
        Check.due("31: no regret", 0, x.told(0, 4));
        Check.due("32: none is ill", 0, x.ill());
        x = told("tn9w50;sm2c1", 3, 0);
        due(x, 0, 3, 2, -3, 0, 3);
        x = told("tn2w50;sm2", 60, NONE);
        due(x, 1, NONE, NONE, 0, 60, 50);
        x = told("tn9;sc1;sc1", 1, 0);
        Check.due("32: one of regret is enough", 1, x.ill());
        x = told("tn1w50;sm2;sm2", 60, 60, 60, 60);
        due(x, 3, 60, 4, 0, 0, 50);
        Check.due("32: all but the first", 14, x.ill());
        x = told("tn1w9;sm9;sm9;sm2c1");
        Check.due("32: twenty of them", (1 << 20) - 1, x.ill());
    }

    private static void settle() {
        ThirdComer x = told("tn2w50f3;sm3c2");
        // Each comes in minute 0 in its turn; then the second has it, and none does better.
        Check.due("33: changes", 3, x.settle());
        for (int person = 0; person < 3; person++) {
            Check.due("33: what is told becomes so", 0, x.told(person, 0));
        }
        Check.due("32: none is ill", 0, x.ill());
        Check.due("33: none changes", 0, x.settle());
        x = told("tn1;sm2", 0, 0);
        Check.due("33: none has regret", 0, x.settle());
        Check.due("33: it stays", 0, x.told(1, 0));
    }

    /** The turns said a second time, with the answers of the class itself. */
    private static void settleFromElsewhere() {
        String[] villages = {"tn2p2w40f1;sm3c1;sm2c2", "tn3w99f9;sm5c3", "tn1p3w9f1;sm4;sc9"};
        for (int k = 0; k < 30; k++) {
            ThirdComer x = Check.with(villages[k % 3]);
            ThirdComer step = Check.with(villages[k % 3]);
            x.tell(0, 0);
            step.tell(0, 0);
            for (int person = 0; person < 5; person++) {
                int minute = (k * 7 + person * person * 5) % 62 - 1;
                x.came(person, minute);
                step.came(person, minute);
            }
            int changes = 0;
            for (int still = 0, person = 0; still < 5 && changes <= 1000; person = (person + 1) % 5) {
                still++;
                if (step.told(person, 4) > 0) {
                    step.came(person, step.told(person, 3));
                    changes++;
                    still = 0;
                }
            }
            Check.due("33: changes", changes > 1000 ? NONE : changes, x.settle());
            for (int person = 0; person < 5 && changes <= 1000; person++) {
                Check.due("33: what is told becomes so", step.told(person, 0), x.told(person, 0));
            }
        }
    }

    private static void ring() {
        // 1 follows 0 for nothing, 0 flees behind it as long as that pays, and begins anew.
        ThirdComer x = told("tn2w17f3;sc4;s", 0, 3);
        Check.due("33: a ring", NONE, x.settle());
        Check.due("33: what is told stays", 0, x.told(0, 0));
        Check.due("33: what is told stays", 3, x.told(1, 0));
        x = told("tn3p2w10f4;sm3c4;sc5", 1, 1, NONE, 3);
        Check.due("33: a ring of four", NONE, x.settle());
        int[] minutes = {1, 1, NONE, 3};
        for (int person = 0; person < 4; person++) {
            Check.due("33: what is told stays", minutes[person], x.told(person, 0));
        }
    }

    /** A thousand changes are still none, one more is a ring. */
    private static void ringAtTheBound() {
        int[] minutes = {NONE, 13, 7, 10, 1, 7, 20, 0, NONE, 4};
        ThirdComer x = told("tn7p3w559f0;sm4c1;sm1c1;sm2c2;sm3c0", minutes);
        Check.due("33: 1001", NONE, x.settle());
        for (int person = 0; person < 10; person++) {
            Check.due("33: what is told stays", minutes[person], x.told(person, 0));
        }
        x.came(0, x.told(0, 3));
        Check.due("33: one less to come", 1000, x.settle());
        Check.due("33: none is left", 0, x.ill());
        Check.due("33: none changes", 0, x.settle());
    }

    private static void twentyOfThem() {
        ThirdComer x = told("tn9p3w99f1;tn5;tn1;tn1;sm9;sm7;s;s;s;sc1");
        for (int person = 0; person < 20; person++) {
            x.came(person, 19 - person);
        }
        Check.due("31: the last comes first", 1, x.told(19, 1));
        Check.due("31: the first comes last", 20, x.told(0, 1));
        Check.due("31: the ninth who comes", 99 - 8, x.told(11, 2));
        goes(x, 19, 2, 2, 3);
        goes(x, 18, NONE, NONE, 3);
        goes(x, 15, 1, 5, 2);
        goes(x, 14, NONE, NONE, 2);
        goes(x, 11, 0, 8, 1);
        goes(x, 9, 0, 10, 1);
        goes(x, 0, NONE, NONE, 1);
        x.came(1, NONE);
        goes(x, 2, NONE, NONE, 1);
        goes(x, 19, 2, 2, 3);
        x.came(0, NONE);
        goes(x, 19, 2, 2, 3);
        Check.due("48: one a minute", 0, x.crowd());
        Check.yes("32: some are ill", x.ill() > 0);
    }

    private static void between() {
        ThirdComer x = new ThirdComer();
        Check.due("34: at first", 1, x.count(3));
        Check.yes("34: 0", x.between(0));
        Check.due("34: 0", 0, x.count(3));
        Check.yes("34: 9", x.between(9));
        Check.no("34: 10", x.between(10));
        Check.no("34: below 0", x.between(-1));
        Check.due("34: refused changes nothing", 9, x.count(3));
    }

    private static void goes(ThirdComer x, int person, int thing, int minute, int visited) {
        Check.due("35: thing of " + person, thing, x.round(person, 0));
        Check.due("35: minute of " + person, minute, x.round(person, 1));
        Check.due("35: things of " + person, visited, x.round(person, 2));
    }

    private static void round() {
        ThirdComer x = told("tn2;tn1;sm4", 3, 5, 5, NONE);
        goes(x, 0, 1, 4, 2);
        goes(x, 1, 0, 5, 1);
        goes(x, 2, NONE, NONE, 1);
        goes(x, 3, NONE, NONE, 0);
        x.between(9);
        goes(x, 0, 1, 12, 2);
        x.between(0);
        goes(x, 0, 1, 3, 2);
        x.tell(0, 1);
        goes(x, 0, NONE, NONE, 0);
        x.came(0, 3);
        x.came(1, 5);
        goes(x, 0, 1, 3, 2);
        goes(x, 1, 0, 5, 1);
        x = told("tn3p2;tn1p2;sm6", 0, 0, 0, 0, 0, 60);
        goes(x, 0, 1, 1, 2);
        goes(x, 1, 1, 1, 2);
        goes(x, 2, 0, 0, 1);
        goes(x, 3, 0, 0, 1);
        goes(x, 4, NONE, NONE, 1);
        goes(x, 5, NONE, NONE, 1);
    }

    /** At the next thing ranks are by minutes again, then by numbers. */
    private static void roundOrder() {
        ThirdComer x = told("tn4;tn2;sm4", 7, 2, 2, 9);
        goes(x, 1, NONE, NONE, 2);
        goes(x, 2, 1, 3, 2);
        goes(x, 0, NONE, NONE, 2);
        goes(x, 3, 0, 9, 1);
        x.came(0, 2);
        goes(x, 0, NONE, NONE, 2);
        goes(x, 1, 1, 3, 2);
        goes(x, 2, NONE, NONE, 2);
    }

    private static void roundOfFour() {
        ThirdComer x = told("tn9;tn9;tn9;t;sm4", 60, 59, 58, 57);
        x.between(9);
        goes(x, 3, NONE, NONE, 4);
        goes(x, 2, NONE, NONE, 4);
        goes(x, 1, 3, 59 + 27, 4);
        goes(x, 0, NONE, NONE, 4);
        x = told("tn9;sm2", 1, 2);
        goes(x, 0, NONE, NONE, 1);
        x = told("tn2;tn2;tn2;tn2;sm2", 4, 6);
        goes(x, 1, 0, 6, 1);
        goes(x, 0, NONE, NONE, 4);
    }

    private static void roundRefused() {
        ThirdComer x = told("t;sm2", 1, 1);
        for (int person : new int[] {-1, 2, Integer.MAX_VALUE}) {
            Check.due("35: no such one", HIDDEN, x.round(person, 0));
        }
        Check.due("35: no such what", HIDDEN, x.round(0, 3));
        Check.due("35: what below 0", HIDDEN, x.round(0, -1));
    }

    private static void swap() {
        ThirdComer x = told("tn2w50f3;sm3c2", 4, 4, NONE);
        // 0 and 2: -8 and -120 ahead; behind it -120, and 2 is the second in 4: 30.
        Check.due("47: 0 and 2", 38, x.swap(0, 2));
        Check.due("47: 2 and 0", 38, x.swap(2, 0));
        Check.due("47: both in 4", 0, x.swap(0, 1));
        Check.due("47: what is told stays", 4, x.told(0, 0));
        Check.due("47: what is told stays", NONE, x.told(2, 0));
        x = told("tn1w50;sc1;sc9", 10, 2);
        // -10 and 50 less 18; then 50 less 2 and -90.
        Check.due("47: the dear one waits", -64, x.swap(0, 1));
        Check.due("47: alike", HIDDEN, x.swap(0, 0));
        for (int person : new int[] {-1, 2, Integer.MIN_VALUE}) {
            Check.due("47: no such one", HIDDEN, x.swap(person, 0));
            Check.due("47: no such one", HIDDEN, x.swap(0, person));
        }
    }

    private static void crowd() {
        ThirdComer x = told("t;sm5");
        Check.due("48: nobody came", NONE, x.crowd());
        x.came(4, 60);
        Check.due("48: one", 60, x.crowd());
        x.came(0, 8);
        Check.due("48: the least of several", 8, x.crowd());
        x.came(1, 60);
        Check.due("48: most", 60, x.crowd());
        x.came(2, 0);
        x.came(3, 0);
        Check.due("48: the least of several", 0, x.crowd());
    }

    private static void free() {
        ThirdComer x = told("tn2w50;sm3", 4, 4, NONE);
        Check.due("49: behind the other", 5, x.free(0));
        Check.due("49: behind the other by its number", 4, x.free(1));
        Check.due("49: first or third", NONE, x.free(2));
        Check.due("49: what is told stays", NONE, x.told(2, 0));
        x = told("tn1w0;sm2", 0, 0);
        Check.due("49: worth nothing, but a place", 0, x.free(0));
        Check.due("49: none", NONE, x.free(1));
        x = told("tn2p2;sm4", 60, 60, 60, 60);
        Check.due("49: never early enough", NONE, x.free(0));
        Check.due("49: in the last minute", 60, x.free(1));
        Check.due("49: in the last minute", 60, x.free(2));
        Check.due("49: none", NONE, x.free(3));
        Check.due("49: no such one", NONE, x.free(4));
        Check.due("49: no such one", NONE, x.free(-1));
    }

    private static void apartFromTheMorning() {
        ThirdComer x = Check.with("tn1;sm2", "tn2;sm3", "y:10");
        x.tell(1, 0);
        x.came(2, 5);
        x.start(0, 0, 0, 0L);
        x.minutes(61);
        x.image();
        Check.due("29: told as before", 5, x.told(2, 0));
        x.came(2, 6);
        x.back();
        Check.due("51: back leaves what is told", 6, x.told(2, 0));
        Check.due("12: and the morning is as it was", 1, x.about(0));
        Check.due("52: people told", 3, x.count(6));
        Check.due("52: people of the morning", 2, x.count(5));
    }
}
