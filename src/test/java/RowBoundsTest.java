/**
 * Every bound that the document names of rows (parts 3 and 5, promises 22 to 28 and 44 to 46), one test for each: at
 * the bound, one below and one above it.
 */
public final class RowBoundsTest {
    private static final int NONE = Check.NONE;
    private static final long WHOLE = 1000000000L;

    public static void main(String[] args) {
        peopleAndLaws();
        worthFallAndCost();
        oneToTwelveMinutes();
        chancesNoughtToTen();
        fiveAtFirst();
        nobodyGoes();
        allGo();
        partsAreCut();
        takenFromTheLawOn();
        neverIsWhatIsLeft();
        valueOfTheMinutes();
        valueFromTheLawOn();
        valueIsCut();
        valueNoLessThanNothing();
        bestTheFirst();
        slackNoughtToNinetyNine();
        restJustByTheSlack();
        restBehindAChanceOfTen();
        restOfNotGoing();
        foundOfOneToThreeMinutes();
        foundFromTheFirstToTheLast();
        foundAsAtRest();
        meanOfAllAndNone();
        goneFromNoneToAll();
        likeOfTheMinutes();
        likeTheLeast();
        Check.finish();
    }

    private static ThirdComer with(int m, int nth, int worth, int fall, int cost, int minutes) {
        ThirdComer x = new ThirdComer();
        Check.yes("22: row", x.row(m, nth, worth, fall, cost, minutes));
        return x;
    }

    /** The chances of all minutes told. */
    private static ThirdComer tell(ThirdComer x, int... chances) {
        for (int minute = 0; minute < chances.length; minute++) {
            Check.yes("23: chance", x.chance(minute, chances[minute]));
        }
        return x;
    }

    // ---- what a row may be

    private static void peopleAndLaws() {
        for (int m = 0; m <= 11; m++) {
            for (int nth = -1; nth <= 11; nth++) {
                ThirdComer x = with(2, 2, 10, 1, 1, 3);
                boolean good = m >= 2 && m <= 9 && nth >= 1 && nth <= m;
                Check.due("22: " + nth + " of " + m, good ? 1 : 0, x.row(m, nth, 10, 1, 1, 1) ? 1 : 0);
                Check.due("52: its minutes", good ? 1 : 3, x.count(4));
                x.chance(0, 10);
                Check.due("45: all of them go", (good ? m : 2) * WHOLE, x.gone(1));
            }
        }
    }

    private static void worthFallAndCost() {
        for (int worth : new int[] {-1, 0, 1, 998, 999, 1000}) {
            ThirdComer x = with(2, 1, 5, 0, 0, 1);
            boolean good = worth >= 0 && worth <= 999;
            Check.due("22: worth " + worth, good ? 1 : 0, x.row(2, 1, worth, 0, 0, 1) ? 1 : 0);
            x.chance(0, 0);
            Check.due("25: worth " + worth, (good ? worth : 5) * WHOLE, x.value(0));
        }
        for (int fall : new int[] {-1, 0, 1, 98, 99, 100}) {
            ThirdComer x = with(2, 1, 500, 7, 0, 2);
            boolean good = fall >= 0 && fall <= 99;
            Check.due("22: fall " + fall, good ? 1 : 0, x.row(2, 1, 500, fall, 0, 2) ? 1 : 0);
            tell(x, 0, 0);
            Check.due("25: fall " + fall, (500 - (good ? fall : 7)) * WHOLE, x.value(1));
        }
        for (int cost : new int[] {-1, 0, 1, 98, 99, 100}) {
            ThirdComer x = with(2, 1, 500, 0, 7, 2);
            boolean good = cost >= 0 && cost <= 99;
            Check.due("22: cost " + cost, good ? 1 : 0, x.row(2, 1, 500, 0, cost, 2) ? 1 : 0);
            tell(x, 0, 0);
            Check.due("25: cost " + cost, (500 - (good ? cost : 7)) * WHOLE, x.value(1));
            Check.due("25: cost of not going " + cost, -2 * (good ? cost : 7) * WHOLE, x.value(2));
        }
    }

    private static void oneToTwelveMinutes() {
        for (int minutes = 0; minutes <= 13; minutes++) {
            ThirdComer x = new ThirdComer();
            boolean good = minutes >= 1 && minutes <= 12;
            Check.due("22: minutes " + minutes, good ? 1 : 0, x.row(2, 1, 10, 0, 1, minutes) ? 1 : 0);
            Check.due("52: minutes " + minutes, good ? minutes : NONE, x.count(4));
            for (int minute = -2; minute <= 14; minute++) {
                boolean within = good && minute >= 0 && minute < minutes;
                boolean withEnd = good && minute >= 0 && minute <= minutes;
                Check.due("23: minute " + minute, within ? 1 : 0, x.chance(minute, 5) ? 1 : 0);
                boolean withNone = within || good && minute == NONE;
                Check.due("24: minute " + minute, withNone ? 1 : 0, x.taken(minute) >= 0 ? 1 : 0);
                Check.due("25: minute " + minute, withEnd ? 0 : 1, Check.noValue(x, minute) ? 1 : 0);
                Check.due("45: minute " + minute, withEnd ? 1 : 0, x.gone(minute) >= 0 ? 1 : 0);
                Check.due("46: minute " + minute, within ? 10 : NONE, x.like(minute));
            }
        }
    }

    private static void chancesNoughtToTen() {
        for (int chance = -2; chance <= 12; chance++) {
            ThirdComer x = with(2, 1, 10, 0, 0, 2);
            boolean good = chance >= 0 && chance <= 10;
            Check.due("23: chance " + chance, good ? 1 : 0, x.chance(1, chance) ? 1 : 0);
            Check.due("23: the other minute stays", 750000000, x.taken(0));
            // Of the quarter that is left: all but the part in which neither goes.
            int told = good ? chance : 5;
            Check.due("24: chance " + told, 250000000L * (100 - (10 - told) * (10 - told)) / 100, x.taken(1));
        }
    }

    private static void fiveAtFirst() {
        ThirdComer x = with(2, 1, 10, 0, 0, 12);
        long left = WHOLE;
        for (int minute = 0; minute < 12; minute++) {
            // One of the two goes by one half, both by a quarter, neither by a quarter; each is cut.
            Check.due("24: five at first, minute " + minute, left / 2 + left / 4, x.taken(minute));
            left = left / 4;
        }
        tell(x, 0, 1, 2, 3, 4, 6, 7, 8, 9, 10, 0, 1);
        Check.due("24: told anew", 0, x.taken(0));
        x.row(2, 1, 10, 0, 0, 12);
        Check.due("22: five again", 750000000, x.taken(0));
        Check.due("22: five again", 187500000, x.taken(1));
        x.row(3, 3, 10, 0, 0, 1);
        Check.due("22: five again", 125000000, x.taken(0));
        tell(x, 9);
        Check.no("22: refused", x.row(3, 4, 10, 0, 0, 1));
        Check.due("22: the chances stay then", 729000000, x.taken(0));
    }

    // ---- parts

    private static void nobodyGoes() {
        for (int m = 2; m <= 9; m++) {
            for (int nth = 1; nth <= m; nth += m - 1) {
                ThirdComer x = tell(with(m, nth, 10, 0, 0, 3), 0, 0, 0);
                for (int minute = 0; minute < 3; minute++) {
                    Check.due("24: nobody goes", 0, x.taken(minute));
                    Check.due("45: nobody goes", 0, x.gone(minute + 1));
                }
                Check.due("24: never", WHOLE, x.taken(NONE));
                Check.due("44: never", 3000000, x.mean());
            }
        }
    }

    private static void allGo() {
        for (int m = 2; m <= 9; m++) {
            for (int nth = 1; nth <= m; nth++) {
                ThirdComer x = tell(with(m, nth, 10, 0, 0, 3), 0, 10, 5);
                int[] taken = {0, (int) WHOLE, 0};
                long[] gone = {0, 0, m * WHOLE, m * WHOLE};
                for (int minute = 0; minute <= 3; minute++) {
                    Check.due("45: all go in minute 1", gone[minute], x.gone(minute));
                    Check.due("24: all go in minute 1", minute < 3 ? taken[minute] : NONE, x.taken(minute));
                }
                Check.due("24: never", 0, x.taken(NONE));
                Check.due("44: in minute 1", 1000000, x.mean());
            }
        }
    }

    /** One of ten each: with nine the part of all is just one, and with the one behind it is cut to nothing. */
    private static void partsAreCut() {
        ThirdComer x = tell(with(9, 9, 10, 0, 0, 2), 1, 0);
        Check.due("24: one part of all", 1, x.taken(0));
        x = tell(with(9, 9, 10, 0, 0, 2), 1, 1);
        // In minute 1 from j gone: each part by itself is cut.
        long due = 0;
        long ten = 1;
        long[] choose = {1, 9, 36, 84, 126, 126, 84, 36, 9};
        long[] nines = {387420489, 43046721, 4782969, 531441, 59049, 6561, 729, 81, 9};
        for (int left = 1; left <= 8; left++) {
            ten *= 10;
            due += choose[9 - left] * nines[9 - left] / ten;
        }
        ten *= 10;
        due += choose[0] * nines[0] / ten;
        Check.due("24: cut one by one", due, x.taken(1));
        x = tell(with(8, 8, 10, 0, 0, 1), 1);
        Check.due("24: ten parts of all", 10, x.taken(0));
    }

    /** Just as many as it takes: j below NTH, j and k NTH or more. */
    private static void takenFromTheLawOn() {
        // Three alike by one half: none, one, two, three go by 1, 3, 3, 1 of eight.
        int[] due = {875000000, 500000000, 125000000};
        for (int nth = 1; nth <= 3; nth++) {
            ThirdComer x = tell(with(3, nth, 10, 0, 0, 2), 5, 0);
            Check.due("24: by " + nth, due[nth - 1], x.taken(0));
            Check.due("24: nobody goes in minute 1", 0, x.taken(1));
            x = tell(with(3, nth, 10, 0, 0, 2), 5, 10);
            Check.due("24: what is left, by " + nth, WHOLE - due[nth - 1], x.taken(1));
        }
    }

    private static void neverIsWhatIsLeft() {
        for (int chance = 0; chance <= 10; chance++) {
            ThirdComer x = with(7, 3, 10, 0, 0, 12);
            long all = 0;
            for (int minute = 0; minute < 12; minute++) {
                x.chance(minute, chance);
            }
            for (int minute = 0; minute < 12; minute++) {
                all += x.taken(minute);
            }
            Check.due("24: never by " + chance, WHOLE - all, x.taken(NONE));
        }
    }

    // ---- values

    private static void valueOfTheMinutes() {
        ThirdComer x = tell(with(2, 1, 999, 9, 9, 12), 0, 0, 0, 0, 0, 0, 0, 0, 0, 0, 0, 0);
        for (int minute = 0; minute < 12; minute++) {
            Check.due("25: minute " + minute, (999 - 18 * minute) * WHOLE, x.value(minute));
        }
        Check.due("25: not to go", -108 * WHOLE, x.value(12));
        Check.yes("25: behind it", Check.noValue(x, 13));
        Check.yes("25: ahead of minute 0", Check.noValue(x, -1));
        Check.due("25: dear to the last", -1188 * WHOLE, with(2, 1, 999, 9, 99, 12).value(12));
        Check.due("25: nothing to lose", 0, with(2, 1, 999, 9, 0, 12).value(12));
    }

    /** One of three, the other two surely going in minute 1: alone, along, and behind them. */
    private static void valueFromTheLawOn() {
        long third = 333333333L * 30;
        long[][] due = {{30 * WHOLE, third, 0}, {0, third, 0}, {0, third, 30 * WHOLE}};
        for (int nth = 1; nth <= 3; nth++) {
            ThirdComer x = tell(with(3, nth, 30, 0, 0, 3), 0, 10, 0);
            for (int minute = 0; minute < 3; minute++) {
                Check.due("25: by " + nth + " in " + minute, due[nth - 1][minute], x.value(minute));
            }
        }
    }

    private static void valueIsCut() {
        for (int m = 2; m <= 9; m++) {
            ThirdComer x = tell(with(m, 1, 999, 0, 0, 1), 10);
            Check.due("25: one of " + m, WHOLE / m * 999, x.value(0));
            x = tell(with(m, m, 999, 0, 0, 1), 10);
            Check.due("25: the last of " + m, WHOLE / m * 999, x.value(0));
        }
        // One half: alone by 1/4, with one by 1/2 by 2, with two by 1/4 by 3, each cut.
        Check.due("25: cut one by one", 250000000L + 250000000L + 83333333L, with(3, 1, 1, 0, 0, 1).value(0));
    }

    private static void valueNoLessThanNothing() {
        ThirdComer x = tell(with(2, 1, 10, 5, 0, 4), 0, 0, 0, 0);
        long[] due = {10, 5, 0, 0, 0};
        for (int minute = 0; minute <= 4; minute++) {
            Check.due("25: worth in " + minute, due[minute] * WHOLE, x.value(minute));
        }
        x = tell(with(2, 1, 11, 5, 2, 4), 0, 0, 0, 0);
        long[] dear = {11, 4, -3, -6, -8};
        for (int minute = 0; minute <= 4; minute++) {
            Check.due("25: worth and cost in " + minute, dear[minute] * WHOLE, x.value(minute));
        }
    }

    private static void bestTheFirst() {
        Check.due("26: all alike", 0, tell(with(2, 1, 10, 0, 0, 3), 0, 0, 0).best());
        Check.due("26: all worth nothing, not to go as well", 0, with(2, 1, 0, 0, 0, 1).best());
        Check.due("26: two alike, behind a lesser one", 1, tell(with(2, 2, 10, 0, 0, 3), 10, 0, 0).best());
        ThirdComer late = tell(with(2, 2, 10, 0, 0, 12), 0, 0, 0, 0, 0, 0, 0, 0, 0, 0, 10, 0);
        Check.due("26: the last minute", 11, late.best());
        Check.due("26: a part less", 1, tell(with(2, 2, 10, 0, 0, 2), 9, 0).best());
        Check.due("26: the first minute", 0, with(2, 1, 10, 1, 1, 12).best());
    }

    // ---- at rest

    private static void slackNoughtToNinetyNine() {
        ThirdComer x = with(2, 1, 0, 0, 0, 1);
        for (int slack : new int[] {-2, -1, 0, 1, 98, 99, 100, 101}) {
            boolean good = slack >= 0 && slack <= 99;
            Check.due("27: slack " + slack, good ? 1 : NONE, x.rest(slack));
            Check.due("28: slack " + slack, good ? 11 : NONE, x.found(slack, NONE));
        }
        // Not to go is 99 less than to go, or 100 less.
        Check.due("27: 99 is enough", 1, tell(with(2, 1, 99, 0, 0, 1), 0).rest(99));
        Check.due("27: 98 is not", 0, tell(with(2, 1, 99, 0, 0, 1), 0).rest(98));
        Check.due("27: 99 is not enough for 100", 0, tell(with(2, 1, 100, 0, 0, 1), 0).rest(99));
    }

    private static void restJustByTheSlack() {
        // Alone in minute 0 it is worth 10; along with the other in minute 1 one half of it.
        ThirdComer x = tell(with(2, 1, 10, 0, 0, 2), 0, 10);
        Check.due("27: one below", 0, x.rest(4));
        Check.due("27: just", 1, x.rest(5));
        Check.due("27: one above", 1, x.rest(6));
        // Along with two others one third of 3 is one part less than 1.
        x = tell(with(3, 1, 3, 0, 0, 2), 0, 10);
        Check.due("25: a part less", WHOLE - 1, x.value(1));
        Check.due("27: a part less", 0, x.rest(2));
        Check.due("27: enough", 1, x.rest(3));
    }

    private static void restBehindAChanceOfTen() {
        // Nothing but minute 0 is worth anything: the others count only if one can come to go in them.
        ThirdComer x = with(2, 1, 50, 50, 0, 3);
        Check.due("27: ten in minute 0", 1, tell(x, 10, 5, 5).rest(0));
        Check.due("27: ten in minute 0", 1, tell(x, 10, 0, 0).rest(0));
        Check.due("27: ten in minute 0", 1, tell(x, 10, 10, 10).rest(0));
        Check.due("27: nine in minute 0, then ten", 0, tell(x, 9, 10, 0).rest(0));
        Check.due("27: nine in minute 0, then never", 0, tell(x, 9, 0, 0).rest(0));
        Check.due("27: never in minute 0, ten in minute 1", 0, tell(x, 0, 10, 0).rest(0));
        // Only the other minute counts, not that one which is best.
        x = with(2, 2, 50, 0, 0, 3);
        Check.due("27: minute 1 is best, but ten is in minute 0", 0, tell(x, 10, 10, 0).rest(24));
        Check.due("27: by as much as it is better", 1, tell(x, 10, 10, 0).rest(25));
        Check.due("27: one in minute 0", 0, tell(x, 1, 10, 0).rest(44));
        Check.due("27: a chance of 0 does not count", 1, tell(x, 0, 10, 0).rest(25));
    }

    private static void restOfNotGoing() {
        ThirdComer x = with(2, 1, 10, 0, 0, 2);
        Check.due("27: all stay", 0, tell(x, 0, 0).rest(9));
        Check.due("27: all stay, just", 1, tell(x, 0, 0).rest(10));
        Check.due("27: ten in the last minute: not to go is not come to", 1, tell(x, 0, 10).rest(5));
        Check.due("27: nine in the last minute: it is", 0, tell(x, 0, 9).rest(9));
        Check.due("27: nine in the last minute, just", 1, tell(x, 0, 9).rest(10));
        x = with(2, 1, 0, 0, 1, 2);
        Check.due("27: not to go costs 2", 0, tell(x, 0, 0).rest(1));
        Check.due("27: not to go costs 2", 1, tell(x, 0, 0).rest(2));
    }

    private static void foundOfOneToThreeMinutes() {
        int[] all = {11, 121, 1331};
        for (int minutes = 1; minutes <= 12; minutes++) {
            ThirdComer x = with(2, 1, 0, 0, 0, minutes);
            int due = minutes <= 3 ? all[minutes - 1] : NONE;
            Check.due("28: worth nothing, " + minutes + " minutes", due, x.found(0, NONE));
            Check.due("28: the first of " + minutes, minutes <= 3 ? 0 : NONE, x.found(0, 0));
            Check.due("28: the last of " + minutes, minutes <= 3 ? due - 1 : NONE, x.found(0, Math.max(0, due - 1)));
            Check.due("28: behind the last of " + minutes, NONE, x.found(0, Math.max(0, due)));
            Check.due("28: below NONE", NONE, x.found(0, -2));
        }
    }

    private static void foundFromTheFirstToTheLast() {
        // To go for sure in minute 0 is at rest, whatever comes behind; nothing else is.
        int[] first = {10, 110, 1210};
        int[] many = {1, 11, 121};
        for (int minutes = 1; minutes <= 3; minutes++) {
            ThirdComer x = with(2, 1, 10, 0, 1, minutes);
            Check.due("28: how many", many[minutes - 1], x.found(0, NONE));
            for (int i = 0; i < many[minutes - 1]; i++) {
                Check.due("28: the " + i + "th of " + minutes, first[minutes - 1] + i, x.found(0, i));
            }
            Check.due("28: no more", NONE, x.found(0, many[minutes - 1]));
        }
        // The second of two, where it pays to be behind: none rests by itself without slack in one minute but these.
        ThirdComer x = with(2, 2, 2, 0, 0, 1);
        Check.due("28: none goes, or all do", 2, x.found(0, NONE));
        Check.due("28: none goes", 0, x.found(0, 0));
        Check.due("28: all do", 10, x.found(0, 1));
        x.row(2, 1, 999, 0, 99, 1);
        Check.due("28: none but one", 1, x.found(99, NONE));
    }

    /** Every row of two minutes, by itself. */
    private static void foundAsAtRest() {
        for (int slack : new int[] {0, 7, 99}) {
            ThirdComer all = with(3, 2, 40, 3, 2, 2);
            int i = 0;
            for (int number = 0; number < 121; number++) {
                ThirdComer x = tell(with(3, 2, 40, 3, 2, 2), number / 11, number % 11);
                if (x.rest(slack) == 1) {
                    Check.due("28: by slack " + slack, number, all.found(slack, i));
                    i++;
                }
            }
            Check.due("28: how many by slack " + slack, i, all.found(slack, NONE));
            Check.due("28: no more by slack " + slack, NONE, all.found(slack, i));
        }
    }

    // ---- MEAN, GONE, LIKE

    private static void meanOfAllAndNone() {
        for (int minutes = 1; minutes <= 12; minutes++) {
            ThirdComer x = with(2, 1, 10, 0, 0, minutes);
            for (int minute = 0; minute < minutes; minute++) {
                x.chance(minute, 0);
            }
            Check.due("44: never, of " + minutes, 1000000 * minutes, x.mean());
            x.chance(minutes - 1, 10);
            Check.due("44: in the last of " + minutes, 1000000 * (minutes - 1), x.mean());
            x.chance(0, 10);
            Check.due("44: in the first of " + minutes, 0, x.mean());
        }
        // One part of all in minute 0, the others never: 2 times 999,999,999 by 1,000 is cut.
        Check.due("44: cut", 1999999, tell(with(9, 9, 10, 0, 0, 2), 1, 0).mean());
    }

    private static void goneFromNoneToAll() {
        ThirdComer x = with(2, 1, 10, 0, 0, 3);
        long[] due = {0, WHOLE, 1500000000L, 1750000000L};
        for (int minute = -1; minute <= 4; minute++) {
            boolean there = minute >= 0 && minute <= 3;
            Check.due("45: ahead of " + minute, there ? due[minute] : NONE, x.gone(minute));
        }
        Check.due("45: nine at once", 9 * WHOLE, tell(with(9, 1, 10, 0, 0, 1), 10).gone(1));
        Check.due("45: ahead of the first", 0, tell(with(9, 1, 10, 0, 0, 1), 10).gone(0));
    }

    private static void likeOfTheMinutes() {
        for (int minutes = 1; minutes <= 12; minutes++) {
            ThirdComer x = with(3, 2, 10, 0, 0, minutes);
            Check.due("46: below 0", NONE, x.like(-1));
            Check.due("46: by the first", 10, x.like(0));
            Check.due("46: by the last", 10, x.like(minutes - 1));
            Check.due("46: behind the last", NONE, x.like(minutes));
        }
    }

    private static void likeTheLeast() {
        ThirdComer x = tell(with(3, 2, 10, 0, 0, 3), 5, 10, 5);
        Check.due("46: ahead of the sure one", 10, x.like(0));
        Check.due("46: sure in minute 1: the least minute and chance", 0, x.like(1));
        Check.due("46: sure in minute 1: the least minute and chance", 0, x.like(2));
        x = tell(with(3, 2, 10, 0, 0, 3), 10, 5, 5);
        Check.due("46: sure in minute 0", 10, x.like(0));
        Check.due("46: it may not be less sure", 10, x.like(2));
        Check.due("46: the chances stay", WHOLE, x.taken(0));
        x = tell(with(3, 2, 10, 0, 0, 3), 0, 0, 0);
        Check.due("46: none goes otherwise", 10, x.like(2));
        Check.due("46: the chances stay", WHOLE, x.taken(NONE));
    }
}
