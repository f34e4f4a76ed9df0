import java.util.ArrayList;
import java.util.List;
import java.util.NoSuchElementException;
import java.util.function.Supplier;
import java.util.function.ToLongFunction;

/**
 * Two objects made alike, one of which is asked for what is refused: it answers as told, and from then on both
 * answer alike, whatever they are asked.
 */
final class Twin {
    /** Stands for an answer where a call throws what the document names. */
    static final long THROWS = Long.MIN_VALUE;
    private static final int FEW = 5;
    /** The document promises nothing behind 512 calls, some of which make an object what it is. */
    private static final int MOST_CALLS = 480;

    private Twin() {
    }

    static void refused(String call, long due, Supplier<ThirdComer> made, ToLongFunction<ThirdComer> asked) {
        ThirdComer x = made.get();
        Check.due(call, due, answer(x, asked));
        List<Long> got = reading(x);
        List<Long> want = reading(made.get());
        Check.due(call + ": as many answers behind it", want.size(), got.size());
        Check.yes(call + ": no more calls than an object is for", want.size() <= MOST_CALLS);
        for (int i = 0; i < want.size() && i < got.size(); i++) {
            Check.due(call + ": changes nothing, answer " + i + " behind it", want.get(i), got.get(i));
        }
    }

    static long answer(ThirdComer x, ToLongFunction<ThirdComer> asked) {
        try {
            return asked.applyAsLong(x);
        } catch (NoSuchElementException e) {
            return THROWS;
        }
    }

    /** All that an object tells of itself, in some 400 calls at most; it does not stand as it stood then. */
    private static List<Long> reading(ThirdComer x) {
        List<Long> all = new ArrayList<>();
        for (int what = 0; what < 7; what++) {
            all.add((long) x.count(what));
        }
        all.add((long) x.fault(0));
        all.add((long) x.fault(1));
        for (int village = 0; village < 4; village++) {
            readVillage(x, village, all);
        }
        for (int sort = 0; sort < 6; sort++) {
            all.add((long) x.wayOf(sort));
        }
        readRow(x, all);
        readTold(x, all);
        readMorning(x, all);
        readOn(x, all);
        return all;
    }

    private static void readVillage(ThirdComer x, int village, List<Long> all) {
        all.add(answer(x, y -> y.village(village, 2)));
        for (int what = 0; what < 4; what++) {
            all.add((long) x.thing(village, 0, what));
            all.add((long) x.sort(village, 0, what));
            all.add((long) x.sort(village, 1, what));
        }
        all.add((long) x.of(village, 2));
    }

    private static void readRow(ThirdComer x, List<Long> all) {
        for (int minute = -1; minute < 3; minute++) {
            int asked = minute;
            all.add((long) x.taken(minute));
            all.add(x.gone(minute + 1));
            all.add(answer(x, y -> y.value(asked + 1)));
        }
        all.add((long) x.best());
        all.add((long) x.rest(20));
        all.add((long) x.found(7, -1));
        all.add((long) x.like(0));
    }

    private static void readTold(ThirdComer x, List<Long> all) {
        for (int person = 0; person < FEW; person++) {
            for (int what = 0; what < 5; what++) {
                all.add((long) x.told(person, what));
            }
            all.add((long) x.round(person, 1));
        }
        all.add((long) x.ill());
        all.add((long) x.crowd());
        all.add((long) x.free(1));
    }

    private static void readMorning(ThirdComer x, List<Long> all) {
        for (int what = 0; what < 8; what++) {
            all.add((long) x.about(what));
        }
        for (int person = 0; person < FEW; person++) {
            for (int what = 0; what < 6; what++) {
                all.add((long) x.who(person, what));
            }
        }
    }

    /** What comes of it: the morning goes on by its draws, the image stands again, texts on the tape are taken. */
    private static void readOn(ThirdComer x, List<Long> all) {
        all.add((long) x.odds(0, 2, 1));
        all.add((long) x.law(-1, 2));
        all.add((long) x.gains(1, 2));
        all.add((long) x.minutes(4));
        readMorning(x, all);
        all.add((long) x.minutes(61));
        all.add((long) x.about(6));
        all.add((long) x.back());
        readMorning(x, all);
        all.add((long) x.minutes(7));
        all.add((long) x.about(1));
        all.add((long) x.about(2));
        all.add((long) x.settle());
        all.add((long) x.told(0, 0));
        all.add((long) x.agree(1));
        all.add((long) x.wayOf(0));
        all.add((long) x.wayOf(1));
        all.add((long) x.text(0));
        all.add((long) x.text(1));
        all.add((long) x.feed(0x793A3300, 0, 0, 0, 0));
        all.add((long) x.text(1));
    }
}
