/** Promises 22 to 28 and 44 to 46: people alike who go by chances. */
public final class RowTest {
    private static final int NONE = Check.NONE;

    public static void main(String[] args) {
        noRow();
        rowBounds();
        chances();
        threeAlike();
        partsAreCut();
        worthNoLessThanNothing();
        edgesOfMinutes();
        best();
        rest();
        found();
        foundInOrder();
        like();
        anewRow();
        Check.finish();
    }

    private static ThirdComer with(int m, int nth, int worth, int fall, int cost, int minutes) {
        ThirdComer x = new ThirdComer();
        Check.yes("22: row", x.row(m, nth, worth, fall, cost, minutes));
        return x;
    }

    private static void noRow() {
        ThirdComer x = new ThirdComer();
        Check.no("23: no row", x.chance(0, 5));
        Check.due("24: no row", NONE, x.taken(0));
        Check.due("24: no row", NONE, x.taken(NONE));
        Check.yes("25: no row", Check.noValue(x, 0));
        Check.due("26: no row", NONE, x.best());
        Check.due("27: no row", NONE, x.rest(0));
        Check.due("28: no row", NONE, x.found(0, NONE));
        Check.due("28: no row", NONE, x.found(0, 0));
        Check.due("44: no row", NONE, x.mean());
        Check.due("45: no row", NONE, x.gone(0));
        Check.due("46: no row", NONE, x.like(0));
        Check.due("52: no row", NONE, x.count(4));
    }

    private static void rowBounds() {
        ThirdComer x = with(3, 2, 100, 10, 1, 3);
        int[][] bad = {
            {1, 1, 0, 0, 0, 1}, {10, 1, 0, 0, 0, 1}, {2, 0, 0, 0, 0, 1}, {2, 3, 0, 0, 0, 1}, {9, 10, 0, 0, 0, 1},
            {2, 1, -1, 0, 0, 1}, {2, 1, 1000, 0, 0, 1}, {2, 1, 0, -1, 0, 1}, {2, 1, 0, 100, 0, 1},
            {2, 1, 0, 0, -1, 1}, {2, 1, 0, 0, 100, 1}, {2, 1, 0, 0, 0, 0}, {2, 1, 0, 0, 0, 13}, {-2, -3, 0, 0, 0, 1},
        };
        for (int[] b : bad) {
            Check.no("22: out of bounds " + java.util.Arrays.toString(b), x.row(b[0], b[1], b[2], b[3], b[4], b[5]));
        }
        Check.due("22: refused changes nothing", 3, x.count(4));
        Check.due("22: refused changes nothing", 500000000, x.taken(0));
        Check.due("22: refused changes nothing", 33333333300L, x.value(0));
        int[][] good = {
            {2, 1, 0, 0, 0, 1}, {2, 2, 999, 99, 99, 12}, {9, 9, 999, 99, 99, 12}, {9, 1, 0, 0, 0, 1},
        };
        for (int[] g : good) {
            Check.yes("22: " + java.util.Arrays.toString(g), x.row(g[0], g[1], g[2], g[3], g[4], g[5]));
            Check.due("52: minutes", g[5], x.count(4));
        }
    }

    private static void chances() {
        ThirdComer x = with(2, 1, 10, 0, 0, 2);
        Check.due("23: 5 at first", 750000000, x.taken(0));
        for (int[] bad : new int[][] {{-1, 5}, {2, 5}, {0, -1}, {0, 11}, {Integer.MAX_VALUE, 0}}) {
            Check.no("23: no such ones", x.chance(bad[0], bad[1]));
        }
        Check.due("23: refused changes nothing", 750000000, x.taken(0));
        Check.yes("23: 0", x.chance(0, 0));
        Check.due("24: none goes", 0, x.taken(0));
        Check.due("24: all are left", 750000000, x.taken(1));
        Check.yes("23: 10", x.chance(0, 10));
        Check.due("24: all go", 1000000000, x.taken(0));
        Check.due("24: none is left", 0, x.taken(1));
        Check.due("24: never", 0, x.taken(NONE));
        Check.yes("23: 1", x.chance(0, 1));
        Check.due("24: one of ten each", 190000000, x.taken(0));
    }

    /** All by hand: the second of three has it, each chance is one half. */
    private static void threeAlike() {
        ThirdComer x = with(3, 2, 100, 10, 1, 3);
        Check.due("24: 1/2", 500000000, x.taken(0));
        Check.due("24: 11/32", 343750000, x.taken(1));
        Check.due("24: 29/256", 113281250, x.taken(2));
        Check.due("24: 11/256", 42968750, x.taken(NONE));
        Check.due("44: cut", 699218, x.mean());
        long[] gone = {0, 1500000000L, 2250000000L, 2625000000L};
        long[] values = {33333333300L, 40249999970L, 22166666640L, -3000000000L};
        for (int minute = 0; minute <= 3; minute++) {
            Check.due("45: gone ahead of " + minute, gone[minute], x.gone(minute));
            Check.due("25: value of " + minute, values[minute], x.value(minute));
        }
        for (int bad : new int[] {-2, 3, 12, Integer.MAX_VALUE}) {
            Check.due("24: no such minute", NONE, x.taken(bad));
            Check.due("46: no such minute", NONE, x.like(bad));
        }
        Check.due("46: below 0", NONE, x.like(-1));
        for (int bad : new int[] {-1, 4, 13, Integer.MIN_VALUE}) {
            Check.due("45: no such minute", NONE, x.gone(bad));
            Check.yes("25: no such minute", Check.noValue(x, bad));
        }
        Check.due("26: best", 1, x.best());
    }

    /** Each part is cut by itself: with three of ten, parts are no whole numbers in minute 1 of nine people. */
    private static void partsAreCut() {
        ThirdComer x = with(9, 4, 999, 0, 0, 12);
        for (int minute = 0; minute < 12; minute++) {
            x.chance(minute, 3);
        }
        // By a calculation with whole numbers of any length, apart from the program.
        java.math.BigInteger[] parts = new java.math.BigInteger[10];
        java.util.Arrays.fill(parts, java.math.BigInteger.ZERO);
        parts[0] = java.math.BigInteger.valueOf(1000000000L);
        long all = 0;
        for (int minute = 0; minute < 12; minute++) {
            java.math.BigInteger[] next = new java.math.BigInteger[10];
            java.util.Arrays.fill(next, java.math.BigInteger.ZERO);
            long taken = 0;
            long gone = 0;
            for (int j = 0; j <= 9; j++) {
                gone += parts[j].longValueExact() * j;
                long choose = 1;
                for (int k = 0; k <= 9 - j; k++) {
                    java.math.BigInteger part = java.math.BigInteger.valueOf(choose)
                        .multiply(java.math.BigInteger.valueOf(3).pow(k))
                        .multiply(java.math.BigInteger.valueOf(7).pow(9 - j - k))
                        .multiply(parts[j]).divide(java.math.BigInteger.TEN.pow(9 - j));
                    next[j + k] = next[j + k].add(part);
                    taken += j < 4 && j + k >= 4 ? part.longValueExact() : 0;
                    choose = choose * (9 - j - k) / (k + 1);
                }
            }
            Check.due("24: nine alike, " + minute, taken, x.taken(minute));
            Check.due("45: nine alike, " + minute, gone, x.gone(minute));
            all += taken;
            parts = next;
        }
        Check.due("24: nine alike, never", 1000000000L - all, x.taken(NONE));
        Check.yes("24: so that some is lost", x.gone(12) < 9000000000L);
    }

    private static void worthNoLessThanNothing() {
        ThirdComer x = with(2, 1, 10, 99, 3, 2);
        Check.due("25: minute 0", 7500000000L, x.value(0));
        Check.due("25: minute 1 is worth nothing", -3000000000L, x.value(1));
        Check.due("25: not to go", -6000000000L, x.value(2));
        x = with(2, 2, 7, 0, 0, 2);
        // The other one must have gone, or go along: 1/2 by 2; then 1/2, and 1/4 by 2.
        Check.due("25: the second of two", 1750000000L, x.value(0));
        Check.due("25: the second of two", 4375000000L, x.value(1));
        x.chance(0, 10);
        Check.due("25: it goes along for sure", 3500000000L, x.value(0));
        Check.due("25: it has gone for sure", 7000000000L, x.value(1));
        x = with(3, 1, 10, 0, 0, 1);
        x.chance(0, 10);
        Check.due("25: one of three, cut", 3333333330L, x.value(0));
    }

    private static void edgesOfMinutes() {
        ThirdComer x = with(2, 2, 999, 0, 99, 12);
        Check.due("25: not to go", -1188000000000L, x.value(12));
        Check.yes("25: behind it", Check.noValue(x, 13));
        Check.due("24: behind the last", NONE, x.taken(12));
        Check.due("27: of 12 minutes", 0, x.rest(99));
        Check.yes("44: of 12 minutes", x.mean() > 0 && x.mean() < 12000000);
        x.row(2, 2, 0, 0, 0, 12);
        Check.due("27: to the end of 12 minutes", 1, x.rest(0));
        x.row(9, 9, 1, 0, 0, 2);
        x.chance(0, 1);
        x.chance(1, 0);
        Check.due("24: one part of all", 1, x.taken(0));
        Check.due("45: a part does not go astray", x.gone(1), x.gone(2));
        x.row(9, 1, 999, 0, 0, 1);
        x.chance(0, 0);
        Check.due("44: never, in minutes", 1000000, x.mean());
        Check.due("24: never", 1000000000, x.taken(NONE));
        Check.due("45: none gone", 0, x.gone(1));
        x.chance(0, 10);
        Check.due("44: at once", 0, x.mean());
        Check.due("45: nine gone", 9000000000L, x.gone(1));
    }

    private static void best() {
        ThirdComer x = with(2, 1, 0, 0, 0, 3);
        Check.due("26: the first of several", 0, x.best());
        x = with(2, 2, 100, 0, 1, 3);
        x.chance(0, 0);
        x.chance(1, 0);
        x.chance(2, 10);
        Check.due("26: with the other one", 2, x.best());
        x.row(2, 2, 100, 0, 0, 3);
        x.chance(0, 10);
        Check.due("26: behind it, the first of several", 1, x.best());
    }

    private static void rest() {
        ThirdComer x = with(3, 2, 100, 10, 1, 3);
        Check.due("27: not to go is 43.25 less", 0, x.rest(43));
        Check.due("27: by 44", 1, x.rest(44));
        Check.due("27: no such slack", NONE, x.rest(-1));
        Check.due("27: no such slack", NONE, x.rest(100));
        Check.due("27: by 99", 1, x.rest(99));
        // The second of two, the other surely in minute 1: going there is worth 50, behind it 100 less 2.
        x = with(2, 2, 100, 0, 1, 3);
        x.chance(0, 0);
        x.chance(1, 10);
        Check.due("25: ahead", 0, x.value(0));
        Check.due("25: along", 49000000000L, x.value(1));
        Check.due("25: behind", 98000000000L, x.value(2));
        Check.due("27: minute 1 alone counts", 0, x.rest(48));
        Check.due("27: just", 1, x.rest(49));
        x.chance(0, 1);
        Check.due("27: minute 0 counts, too", 0, x.rest(49));
        x.chance(0, 0);
        x.chance(1, 9);
        // Along 45 less 1, behind 92.5 less 2, not to go less 3.
        Check.due("27: not to go counts, too", 0, x.rest(93));
        Check.due("27: just", 1, x.rest(94));
        x.chance(2, 10);
        // Behind it is 95 less 2 now.
        Check.due("27: not to go does not count", 1, x.rest(49));
        Check.due("27: minute 1 does", 0, x.rest(48));
        x.chance(2, 0);
        // Behind it is 90 less 2 now; no more than that is less than not to go by 91.
        Check.due("27: not to go counts again", 0, x.rest(90));
        Check.due("27: just", 1, x.rest(91));
    }

    private static void found() {
        ThirdComer x = with(2, 1, 10, 0, 1, 1);
        Check.due("28: how many", 1, x.found(0, NONE));
        Check.due("28: going for sure", 10, x.found(0, 0));
        Check.due("28: no more", NONE, x.found(0, 1));
        Check.due("28: below NONE", NONE, x.found(0, -2));
        Check.due("28: no such slack", NONE, x.found(-1, NONE));
        Check.due("28: no such slack", NONE, x.found(100, NONE));
        Check.due("28: all", 11, x.found(99, NONE));
        Check.due("28: slack 0 again", 1, x.found(0, NONE));
        x.row(2, 1, 10, 0, 1, 4);
        Check.due("28: more than 3 minutes", NONE, x.found(0, NONE));
        Check.due("28: more than 3 minutes", NONE, x.found(0, 0));
        x.row(2, 1, 0, 0, 0, 1);
        Check.due("28: worth nothing, all rest", 11, x.found(0, NONE));
        x.row(9, 9, 0, 0, 0, 3);
        Check.due("28: three minutes, all", 1331, x.found(0, NONE));
        Check.due("28: the last of all", 1330, x.found(0, 1330));
        x.row(9, 9, 999, 0, 0, 3);
        x.chance(0, 7);
        x.found(3, NONE);
        Check.due("28: chances stay", 7, sevenths(x));
    }

    /** The chance of minute 0 as it shows in how many are gone ahead of minute 1. */
    private static long sevenths(ThirdComer x) {
        return (x.gone(1) + 100) / 900000000L;
    }

    /** The first who comes has it: to go for sure in minute 0 is at rest, whatever comes behind. */
    private static void foundInOrder() {
        ThirdComer x = with(2, 1, 10, 0, 1, 2);
        Check.due("28: how many", 11, x.found(0, NONE));
        for (int i = 0; i < 11; i++) {
            Check.due("28: minute 0 is the highest digit", 110 + i, x.found(0, i));
        }
        Check.due("28: no more", NONE, x.found(0, 11));
        x.row(2, 1, 10, 0, 1, 3);
        Check.due("28: how many", 121, x.found(0, NONE));
        Check.due("28: the first", 1210, x.found(0, 0));
        Check.due("28: the last", 1330, x.found(0, 120));
        x.row(2, 1, 10, 0, 1, 3);
        for (int number : new int[] {0, 5, 600, 1210, 1330}) {
            for (int slack : new int[] {0, 5, 9, 13, 40}) {
                x.chance(0, number / 121);
                x.chance(1, number / 11 % 11);
                x.chance(2, number % 11);
                boolean there = false;
                for (int i = 0; i < x.found(slack, NONE) && !there; i++) {
                    there = x.found(slack, i) == number;
                }
                Check.due("28: as it is at rest", x.rest(slack), there ? 1 : 0);
            }
        }
    }

    private static void like() {
        ThirdComer x = with(2, 2, 10, 1, 1, 2);
        Check.due("46: all in minute 0", 10, x.like(0));
        Check.due("46: all in minute 0", 10, x.like(1));
        x.chance(1, 10);
        Check.due("46: all in minute 1 anyway: the least of several", 0, x.like(1));
        Check.due("46: by minute 0", 10, x.like(0));
        Check.due("46: chances stay", 250000000, x.taken(0));
        x = with(3, 3, 10, 1, 1, 3);
        x.chance(0, 0);
        x.chance(1, 1);
        x.chance(2, 0);
        Check.due("46: minute 0", 10, x.like(2));
        x = with(9, 5, 10, 1, 1, 12);
        Check.due("46: of 12 minutes", 10, x.like(11));
        x.chance(11, 10);
        Check.due("46: parts that are cut count", likeByTrying(x, 11), x.like(11));
        Check.due("46: and ahead of it", likeByTrying(x, 5), x.like(5));
    }

    /** By telling each chance anew; the chances are 5, and 10 in the last minute. */
    private static int likeByTrying(ThirdComer x, int last) {
        long most = -1;
        int found = NONE;
        for (int minute = 0; minute < 12; minute++) {
            for (int chance = 0; chance <= 10; chance++) {
                x.chance(minute, chance);
                long taken = 0;
                for (int k = 0; k <= last; k++) {
                    taken += x.taken(k);
                }
                if (taken > most) {
                    most = taken;
                    found = 11 * minute + chance;
                }
            }
            x.chance(minute, minute == 11 ? 10 : 5);
        }
        return found;
    }

    private static void anewRow() {
        ThirdComer x = with(2, 1, 10, 0, 1, 2);
        x.chance(0, 0);
        x.chance(1, 10);
        x.row(2, 1, 10, 0, 1, 2);
        Check.due("22: chances are 5 again", 750000000, x.taken(0));
        Check.due("22: chances are 5 again", 187500000, x.taken(1));
        Check.due("28: found", 11, x.found(0, NONE));
        x.row(2, 2, 10, 0, 1, 1);
        Check.due("28: of the new row", 1, x.found(0, NONE));
        Check.due("28: going for sure", 10, x.found(0, 0));
    }
}
