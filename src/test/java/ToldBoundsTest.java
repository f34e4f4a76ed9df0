/**
 * Every bound that the document names of mornings told (parts 4 and 5, promises 29 to 35 and 47 to 49), one test for
 * each: at the bound, one below and one above it, nobody and all.
 */
public final class ToldBoundsTest {
    private static final int NONE = Check.NONE;
    private static final int HIDDEN = Check.HIDDEN;
    private static final int MINUTE = 0;
    private static final int RANK = 1;
    private static final int GAIN = 2;
    private static final int ANSWER = 3;
    private static final int REGRET = 4;

    public static void main(String[] args) {
        eachVillageAndThing();
        nobodyCameAtFirst();
        minutesNoughtToSixty();
        peopleOneToTwenty();
        whatIsAskedOfOne();
        ranksByMinutes();
        ranksThatHaveAPlace();
        worthNoLessThanNothing();
        costTillItCame();
        answerTheLeast();
        answerInTheFirstAndTheLastMinute();
        answerIsToCome();
        regretOrNone();
        illNobodyAndAll();
        turnsOfNone();
        turnsByNumbers();
        turnsUpToAThousand();
        betweenNoughtAndNine();
        roundOfNobody();
        roundOfTheFirstLaw();
        roundByRanks();
        roundBehindTheLastThing();
        roundThroughFourThings();
        roundBetween();
        roundBehindMinuteSixty();
        swapOfTheSame();
        swapMoreAndLess();
        crowdOfNobodyAndAll();
        crowdTheLeast();
        freeInTheFirstAndTheLastMinute();
        freeNever();
        Check.finish();
    }

    /** A morning told of a new object's village 0, thing 0, with the minutes people came. */
    private static ThirdComer told(String village, int... minutes) {
        ThirdComer x = Check.with(village);
        Check.yes("29: tell", x.tell(0, 0));
        for (int person = 0; person < minutes.length; person++) {
            Check.yes("30: came", x.came(person, minutes[person]));
        }
        return x;
    }

    private static void due(ThirdComer x, int person, int minute, int rank, int gain, int answer, int regret) {
        int[] due = {minute, rank, gain, answer, regret};
        for (int what = 0; what < 5; what++) {
            Check.due("31: told(" + person + ", " + what + ")", due[what], x.told(person, what));
        }
    }

    private static void goes(ThirdComer x, int person, int thing, int minute, int visited) {
        Check.due("35: thing of " + person, thing, x.round(person, 0));
        Check.due("35: minute of " + person, minute, x.round(person, 1));
        Check.due("35: things of " + person, visited, x.round(person, 2));
    }

    // ---- what is told

    private static void eachVillageAndThing() {
        ThirdComer x = Check.with("tn1w10;tn1w20;s", "tn1w30;tn1w40;tn1w50;tn1w60;sm2");
        int[][] worth = {{10, 20}, {30, 40, 50, 60}};
        for (int village = -1; village <= 2; village++) {
            for (int thing = -1; thing <= 4; thing++) {
                boolean good = village >= 0 && village < 2 && thing >= 0 && thing < worth[village].length;
                Check.due("29: tell", good ? 1 : 0, x.tell(village, thing) ? 1 : 0);
                if (good) {
                    Check.due("52: its people", village + 1, x.count(6));
                    Check.due("29: nobody came", NONE, x.told(0, MINUTE));
                    x.came(0, 0);
                    Check.due("31: its worth", worth[village][thing], x.told(0, GAIN));
                }
            }
        }
        Check.due("29: refused changes nothing", 60, x.told(0, GAIN));
    }

    private static void nobodyCameAtFirst() {
        ThirdComer x = told("tn1w50;sm9c3;sm9;sm2c99");
        for (int person = 0; person < 20; person++) {
            int cost = person < 9 ? 3 : person < 18 ? 0 : 99;
            due(x, person, NONE, NONE, -60 * cost, 0, 60 * cost + 50);
            goes(x, person, NONE, NONE, 0);
            Check.due("49: at once", 0, x.free(person));
        }
        Check.due("48: nobody", NONE, x.crowd());
        Check.due("32: all", (1 << 20) - 1, x.ill());
    }

    private static void minutesNoughtToSixty() {
        for (int minute = -3; minute <= 63; minute++) {
            ThirdComer x = told("tn2;sm2", 7, 8);
            boolean good = minute >= NONE && minute <= 60;
            Check.due("30: came in " + minute, good ? 1 : 0, x.came(1, minute) ? 1 : 0);
            Check.due("31: came in " + minute, good ? minute : 8, x.told(1, MINUTE));
            int rank = good && minute == NONE ? NONE : good && minute < 7 ? 1 : 2;
            Check.due("31: its rank", rank, x.told(1, RANK));
            Check.due("31: the other one", 7, x.told(0, MINUTE));
            Check.due("31: rank of the other one", rank == 1 ? 2 : 1, x.told(0, RANK));
        }
        ThirdComer x = told("tn2;sm2", 7, 8);
        x.came(1, NONE);
        x.came(1, NONE);
        Check.due("30: it did not, twice", NONE, x.told(1, MINUTE));
        x.came(1, 60);
        Check.due("30: it did after all", 60, x.told(1, MINUTE));
    }

    private static void peopleOneToTwenty() {
        for (String village : new String[] {"t;s", "t;sm2", "t;sm9;sm9;s", "t;sm9;sm9;sm2"}) {
            ThirdComer x = told(village);
            int people = x.village(0, 2);
            for (int person : new int[] {-1, 0, people - 1, people}) {
                boolean there = person >= 0 && person < people;
                Check.due("30: " + person + " of " + people, there ? 1 : 0, x.came(person, 5) ? 1 : 0);
                Check.due("31: " + person + " of " + people, there ? 5 : HIDDEN, x.told(person, MINUTE));
                Check.due("35: " + person + " of " + people, there ? 1 : HIDDEN, x.round(person, 2));
                // All who came did in minute 5, and there are too few of them for a place.
                Check.due("47: " + person + " of " + people, there && person != 0 ? 0 : HIDDEN, x.swap(person, 0));
                Check.due("49: " + person + " of " + people, NONE, x.free(person));
            }
        }
    }

    private static void whatIsAskedOfOne() {
        ThirdComer x = told("tn1w50f1;sc2", 4);
        int[] due = {HIDDEN, 4, 1, 46 - 8, 0, 12, HIDDEN};
        for (int what = -1; what <= 5; what++) {
            Check.due("31: told(0, " + what + ")", due[what + 1], x.told(0, what));
        }
        int[] round = {HIDDEN, 0, 4, 1, HIDDEN};
        for (int what = -1; what <= 3; what++) {
            Check.due("35: round(0, " + what + ")", round[what + 1], x.round(0, what));
        }
    }

    // ---- ranks and gains

    private static void ranksByMinutes() {
        ThirdComer x = told("t;sm4", 60, 0, 0, 59);
        int[] ranks = {4, 1, 2, 3};
        for (int person = 0; person < 4; person++) {
            Check.due("31: rank of " + person, ranks[person], x.told(person, RANK));
        }
        x = told("t;sm9;sm9;sm2");
        for (int person = 0; person < 20; person++) {
            x.came(person, 60);
        }
        for (int person = 0; person < 20; person++) {
            Check.due("31: all in minute 60", person + 1, x.told(person, RANK));
        }
        for (int person = 0; person < 20; person++) {
            x.came(person, 60 - person);
        }
        for (int person = 0; person < 20; person++) {
            Check.due("31: the last first", 20 - person, x.told(person, RANK));
        }
    }

    private static void ranksThatHaveAPlace() {
        for (int nth = 1; nth <= 9; nth++) {
            for (int places = 1; places <= 3; places++) {
                ThirdComer x = told("tn" + nth + "p" + places + "w70;sm9;sm3", 0, 0, 0, 0, 0, 0, 0, 0, 0, 0, 0, 0);
                for (int person = 0; person < 12; person++) {
                    int rank = person + 1;
                    boolean has = rank >= nth && rank <= nth + places - 1;
                    Check.due("31: " + rank + " by " + nth + " and " + places, has ? 70 : 0, x.told(person, GAIN));
                }
            }
        }
    }

    private static void worthNoLessThanNothing() {
        int[] due = {10, 7, 4, 1, 0, 0};
        for (int minute = 0; minute < due.length; minute++) {
            Check.due("31: worth in " + minute, due[minute], told("tn1w10f3;s", minute).told(0, GAIN));
        }
        Check.due("31: just nothing", 0, told("tn1w60f1;s", 60).told(0, GAIN));
        Check.due("31: one above", 1, told("tn1w61f1;s", 60).told(0, GAIN));
        Check.due("31: one below", 0, told("tn1w59f1;s", 60).told(0, GAIN));
        Check.due("31: far below", 0, told("tn1w0f99;s", 60).told(0, GAIN));
        Check.due("31: worth most", 999, told("tn1w999f0;s", 60).told(0, GAIN));
    }

    private static void costTillItCame() {
        Check.due("31: at once", 0, told("tn9;sc99", 0).told(0, GAIN));
        Check.due("31: a minute", -99, told("tn9;sc99", 1).told(0, GAIN));
        Check.due("31: 60 minutes", -99 * 60, told("tn9;sc99", 60).told(0, GAIN));
        Check.due("31: it did not come: 60, too", -99 * 60, told("tn9;sc99", NONE).told(0, GAIN));
        Check.due("31: no cost", 0, told("tn9;s", 60).told(0, GAIN));
        Check.due("31: no cost", 0, told("tn9;s", NONE).told(0, GAIN));
        Check.due("31: distance does not count", 100 - 4, told("tn1;sc2d9", 2).told(0, GAIN));
        Check.due("31: nor whether it knows", 100 - 4, told("tn1;sc2k0", 2).told(0, GAIN));
    }

    // ---- answers, regret, turns

    private static void answerTheLeast() {
        // Nothing falls or costs: each minute from the other's on is as good for who has the greater number.
        for (int minute : new int[] {0, 1, 30, 59, 60}) {
            ThirdComer x = told("tn2w50;sm2", minute, NONE);
            due(x, 1, NONE, NONE, 0, minute, 50);
            x = told("tn2w50;sm2", NONE, minute);
            // Who has the lesser number must come behind it: in minute 61 it could not.
            due(x, 0, NONE, NONE, 0, minute < 60 ? minute + 1 : 0, minute < 60 ? 50 : 0);
        }
        ThirdComer x = told("tn1w50;sm2", 60, 60);
        due(x, 0, 60, 1, 50, 0, 0);
        due(x, 1, 60, 2, 0, 0, 50);
    }

    private static void answerInTheFirstAndTheLastMinute() {
        // Worth 50 in minute 60 as the second, at 0 the minute: the only one in which it has a place.
        due(told("tn2w50;sm2c0", 60, 0), 1, 0, 1, 0, 60, 50);
        // 60 minutes at 1 cost more than the 50: it comes at once.
        due(told("tn2w50;sc0;sc1", 60, 0), 1, 0, 1, 0, 0, 0);
        // They cost as much as the 60: the least of several is at once.
        due(told("tn2w60;sc0;sc1", 60, 0), 1, 0, 1, 0, 0, 0);
        // They cost one less than the 61.
        due(told("tn2w61;sc0;sc1", 60, 0), 1, 0, 1, 0, 60, 1);
        // It falls to nothing by then.
        due(told("tn2w60f1;sc0;sc0", 60, 0), 1, 0, 1, 0, 0, 0);
        due(told("tn2w61f1;sc0;sc0", 60, 0), 1, 0, 1, 0, 60, 1);
    }

    /** Not to come is never more than to come at once, and so never the answer. */
    private static void answerIsToCome() {
        for (String village : new String[] {"tn9w0;s", "tn9w0;sc99", "tn1w0f99;s", "tn9w999;sc1"}) {
            Check.due("31: alone in " + village, 0, told(village, NONE).told(0, ANSWER));
            Check.due("31: alone in " + village, 0, told(village, 60).told(0, ANSWER));
        }
    }

    private static void regretOrNone() {
        Check.due("31: none", 0, told("tn1w50f1;sc1", 0).told(0, REGRET));
        Check.due("31: a minute late", 2, told("tn1w50f1;sc1", 1).told(0, REGRET));
        Check.due("31: a minute late, one of cost", 1, told("tn1w50;sc1", 1).told(0, REGRET));
        Check.due("31: a minute late, for nothing", 0, told("tn1w50;s", 1).told(0, REGRET));
        Check.due("31: not to come, for nothing", 0, told("tn9;s", NONE).told(0, REGRET));
        Check.due("31: all that there is", 999 + 99 * 60, told("tn1w999;sc99", NONE).told(0, REGRET));
    }

    private static void illNobodyAndAll() {
        Check.due("32: nobody", 0, told("tn1;sm2", 0, 0).ill());
        Check.due("32: one of one", 1, told("tn1;s", NONE).ill());
        Check.due("32: none of one", 0, told("tn1;s", 0).ill());
        ThirdComer x = told("tn9w0;sm9c1;sm9c1;sm2c1");
        Check.due("32: all of twenty", 0xFFFFF, x.ill());
        for (int person = 0; person < 20; person++) {
            x.came(person, 0);
            Check.due("32: but the first " + (person + 1), 0xFFFFF & -1 << person + 1, x.ill());
        }
        x.came(19, 1);
        Check.due("32: the last of twenty", 1 << 19, x.ill());
    }

    private static void turnsOfNone() {
        ThirdComer x = told("tn1w50;s", 0);
        Check.due("33: none", 0, x.settle());
        Check.due("33: it stays", 0, x.told(0, MINUTE));
        x = told("tn9w50;sm2", 33, NONE);
        Check.due("33: none has regret", 0, x.settle());
        Check.due("33: though another minute is as good", 33, x.told(0, MINUTE));
        Check.due("33: though to come is as good", NONE, x.told(1, MINUTE));
        x = told("tn1w50;s", NONE);
        Check.due("33: one change", 1, x.settle());
        Check.due("33: what is told becomes so", 0, x.told(0, MINUTE));
        Check.due("33: none more", 0, x.settle());
        x = told("tn9w0;sm9c1;sm9c1;sm2c1");
        Check.due("33: each of twenty once", 20, x.settle());
        Check.due("33: the last came at once", 0, x.told(19, MINUTE));
    }

    private static void turnsByNumbers() {
        // The first has it: 0 comes at once, and then 1 could only follow, which helps nothing and costs nothing.
        ThirdComer x = told("tn1w50;sm2", NONE, NONE);
        Check.due("33: the first alone changes", 1, x.settle());
        Check.due("33: 0 came", 0, x.told(0, MINUTE));
        Check.due("33: 1 did not", NONE, x.told(1, MINUTE));
        // The second has it: 0 gains nothing by coming; 1 neither, as long as 0 does not.
        x = told("tn2w50;sm2", NONE, NONE);
        Check.due("33: none begins", 0, x.settle());
        // Waiting costs: both come at once, and 1 has it; 0 would have to come behind it, for 1 less 1.
        x = told("tn2w1;sm2c1", NONE, NONE);
        Check.due("33: both change, and it is not worth a minute", 2, x.settle());
        Check.due("33: 0 came at once", 0, x.told(0, MINUTE));
        Check.due("33: 1 came at once", 0, x.told(1, MINUTE));
    }

    /** Found by search: 1,001 changes from what is told here, and one less behind the first of them. */
    private static void turnsUpToAThousand() {
        int[] minutes = {NONE, 13, 7, 10, 1, 7, 20, 0, NONE, 4};
        ThirdComer x = told("tn7p3w559f0;sm4c1;sm1c1;sm2c2;sm3c0", minutes);
        Check.due("33: 1,001 are a ring", NONE, x.settle());
        for (int person = 0; person < minutes.length; person++) {
            Check.due("33: what is told stays", minutes[person], x.told(person, MINUTE));
        }
        x.came(0, x.told(0, ANSWER));
        Check.due("33: 1,000 are not", 1000, x.settle());
        Check.due("32: nobody is ill behind it", 0, x.ill());
    }

    // ---- the round

    private static void betweenNoughtAndNine() {
        ThirdComer x = told("tn2;tn1;sm2", 5, 9);
        goes(x, 0, 1, 6, 2);
        for (int v = -2; v <= 11; v++) {
            int ahead = x.count(3);
            boolean good = v >= 0 && v <= 9;
            Check.due("34: between " + v, good ? 1 : 0, x.between(v) ? 1 : 0);
            Check.due("52: between " + v, good ? v : ahead, x.count(3));
            goes(x, 0, 1, 5 + (good ? v : ahead), 2);
        }
    }

    private static void roundOfNobody() {
        ThirdComer x = told("tn1;tn1;tn1;tn1;sm9;sm9;sm2");
        for (int person : new int[] {0, 10, 19}) {
            goes(x, person, NONE, NONE, 0);
        }
    }

    /** By NTH 1 nobody is too early, so that nobody goes on. */
    private static void roundOfTheFirstLaw() {
        ThirdComer x = told("tn1;tn1;sm3", 0, 0, 60);
        goes(x, 0, 0, 0, 1);
        goes(x, 1, NONE, NONE, 1);
        goes(x, 2, NONE, NONE, 1);
    }

    /** Six who came one a minute: those below NTH go on, those of the PLACES have it, the others have nothing. */
    private static void roundByRanks() {
        for (int nth = 1; nth <= 6; nth++) {
            for (int places = 1; places <= 3; places++) {
                ThirdComer x = told("tn" + nth + "p" + places + ";tn9;sm6", 0, 1, 2, 3, 4, 5);
                for (int person = 0; person < 6; person++) {
                    int rank = person + 1;
                    boolean has = rank >= nth && rank <= nth + places - 1;
                    goes(x, person, has ? 0 : NONE, has ? person : NONE, rank < nth ? 2 : 1);
                }
            }
        }
    }

    private static void roundBehindTheLastThing() {
        ThirdComer x = told("tn2;sm2", 3, NONE);
        goes(x, 0, NONE, NONE, 1);
        x = told("tn2;tn2;sm2", 3, NONE);
        goes(x, 0, NONE, NONE, 2);
        x = told("tn2;tn2;tn2;tn2;sm2", 3, NONE);
        goes(x, 0, NONE, NONE, 4);
    }

    private static void roundThroughFourThings() {
        // One less goes on from each thing, and who is left has the last.
        ThirdComer x = told("tn4;tn3;tn2;tn1;sm5", 0, 1, 2, 3, 4);
        goes(x, 4, NONE, NONE, 1);
        goes(x, 3, 0, 3, 1);
        goes(x, 2, 1, 3, 2);
        goes(x, 1, 2, 3, 3);
        goes(x, 0, 3, 3, 4);
    }

    private static void roundBetween() {
        ThirdComer x = told("tn4;tn3;tn2;tn1;sm5", 0, 0, 0, 0, 0);
        x.between(0);
        goes(x, 4, NONE, NONE, 1);
        goes(x, 3, 0, 0, 1);
        goes(x, 2, 1, 0, 2);
        goes(x, 1, 2, 0, 3);
        goes(x, 0, 3, 0, 4);
        x.between(9);
        goes(x, 3, 0, 0, 1);
        goes(x, 2, 1, 9, 2);
        goes(x, 1, 2, 18, 3);
        goes(x, 0, 3, 27, 4);
    }

    private static void roundBehindMinuteSixty() {
        ThirdComer x = told("tn2;tn2;tn2;tn1;sm2", 60, NONE);
        x.between(0);
        goes(x, 0, 3, 60, 4);
        x.between(1);
        goes(x, 0, 3, 63, 4);
        x.between(9);
        goes(x, 0, 3, 87, 4);
    }

    // ---- SWAP, CROWD, FREE

    private static void swapOfTheSame() {
        Check.due("47: both in a minute", 0, told("tn1w50;sc1;sc2", 5, 5).swap(0, 1));
        Check.due("47: neither came", 0, told("tn1w50;sc1;sc2", NONE, NONE).swap(0, 1));
        Check.due("47: alike in all", 0, told("tn1w50;sm2c3", 0, 60).swap(0, 1));
        Check.due("47: the same one", HIDDEN, told("tn1w50;sm2", 0, 60).swap(1, 1));
    }

    private static void swapMoreAndLess() {
        // -60 and -0 of cost 1 and 9: the dear one would wait.
        Check.due("47: less", -480, told("tn9;sc1;sc9", 60, 0).swap(0, 1));
        Check.due("47: more", 480, told("tn9;sc1;sc9", 0, 60).swap(0, 1));
        Check.due("47: not to come is like minute 60", 480, told("tn9;sc1;sc9", 0, NONE).swap(1, 0));
        Check.due("47: not to come is like minute 60", 0, told("tn9;sc1;sc9", 60, NONE).swap(1, 0));
        // A third one may lose by it, which does not count: only who changes does.
        ThirdComer x = told("tn3w50;s;s;s", 5, 7, 5);
        // Ranks 1, 3, 2; when 0 and 1 change, 0 has it in 7.
        Check.due("47: the place goes over", 0, x.swap(0, 1));
        // When 1 and 2 change, 2 has it in 7.
        Check.due("47: the place goes over", 0, x.swap(1, 2));
        x = told("tn2w50;s;s;s", 5, 5, 4);
        // Ranks 2, 3, 1: 0 has it. When 1 and 2 change, 1 comes in 4, 2 in 5 behind 0.
        Check.due("47: nothing for both", 0, x.swap(1, 2));
        // When 0 and 2 change, 0 comes in 4, then 1 has it, and 2 is the third.
        Check.due("47: the place is lost to another", -50, x.swap(0, 2));
    }

    private static void crowdOfNobodyAndAll() {
        ThirdComer x = told("t;sm9;sm9;sm2");
        Check.due("48: nobody", NONE, x.crowd());
        for (int minute : new int[] {0, 1, 59, 60}) {
            for (int person = 0; person < 20; person++) {
                x.came(person, minute);
            }
            Check.due("48: all in " + minute, minute, x.crowd());
        }
        for (int person = 0; person < 20; person++) {
            x.came(person, NONE);
        }
        Check.due("48: nobody after all", NONE, x.crowd());
        x.came(19, 0);
        Check.due("48: one", 0, x.crowd());
    }

    private static void crowdTheLeast() {
        Check.due("48: one each", 3, told("t;sm4", 9, 3, 60, NONE).crowd());
        Check.due("48: two against one", 60, told("t;sm4", 60, 3, 60, NONE).crowd());
        Check.due("48: two against two", 3, told("t;sm4", 60, 3, 60, 3).crowd());
        Check.due("48: those who did not come are no crowd", 60, told("t;sm4", NONE, NONE, NONE, 60).crowd());
    }

    private static void freeInTheFirstAndTheLastMinute() {
        Check.due("49: alone", 0, told("tn1;s", NONE).free(0));
        Check.due("49: alone, though it came late", 0, told("tn1;s", 60).free(0));
        for (int minute : new int[] {0, 1, 30, 59, 60}) {
            Check.due("49: with the other, behind it", minute, told("tn2;sm2", minute, NONE).free(1));
            int due = minute < 60 ? minute + 1 : NONE;
            Check.due("49: a minute behind the other", due, told("tn2;sm2", NONE, minute).free(0));
            Check.due("49: ahead of the other", 0, told("tn1p2;sm2", minute, NONE).free(1));
        }
    }

    private static void freeNever() {
        Check.due("49: too few come", NONE, told("tn2;s", NONE).free(0));
        Check.due("49: too few come", NONE, told("tn3;sm3", 5, NONE, NONE).free(1));
        Check.due("49: just enough come", 5, told("tn3;sm3", 5, NONE, 3).free(1));
        Check.due("49: the others are ahead in minute 0", NONE, told("tn1;sm2", 0, NONE).free(1));
        Check.due("49: one less is ahead", 0, told("tn1p2;sm2", 0, NONE).free(1));
        Check.due("49: the others jump over the place", NONE, told("tn2;sm3", 4, 4, NONE).free(2));
        Check.due("49: with two places they do not", 4, told("tn2p2;sm3", 4, 4, NONE).free(2));
    }
}
