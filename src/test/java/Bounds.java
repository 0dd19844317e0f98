import java.util.ArrayList;
import java.util.Arrays;
import java.util.List;

/** What the tests of boundary cases share. Each of their methods is one sentence of the document; see BoundsTest. */
abstract class Bounds {
    static final int LEAST = Integer.MIN_VALUE;
    static final int MOST = Integer.MAX_VALUE;
    private Check check;

    void countIn(Check where) {
        check = where;
    }

    void due(String what, int got, int want) {
        check.due(what, got, want);
    }

    void due(String what, boolean got, boolean want) {
        check.due(what, got, want);
    }

    /** A text is read by a new object: its fault and the fault's place. */
    void fault(String text, int number, int place) {
        LentSundays x = new LentSundays();
        due("read of «" + text + "»", Check.read(x, text), number);
        due("place in «" + text + "»", x.place(), place);
    }

    void good(String text) {
        fault(text, 0, -1);
    }

    /** The fault stands where the text has a '!', which is taken out. */
    void faultAt(String marked, int number) {
        int place = marked.indexOf('!');
        fault(marked.substring(0, place) + marked.substring(place + 1), number, place);
    }

    /** What can be seen of all that may change, but for the tape: for calls behind which nothing may have happened. */
    static List<Integer> seen(LentSundays x) {
        List<Integer> all = new ArrayList<>();
        for (int what = 0; what < 19; what++) {
            if (what != 8) {
                all.add(x.count(what));
            }
        }
        int sundays = all.get(0);
        int guests = all.get(1);
        int told = all.get(9);
        for (int s = 0; s < sundays; s++) {
            all.addAll(List.of(x.sunday(s, 2), x.sunday(s, 3), x.sunday(s, 4), x.sunday(s, 6)));
        }
        for (int g = 0; g < guests; g++) {
            all.addAll(List.of(x.guest(g, 3), x.guest(g, 4), x.guest(g, 5), x.guest(g, 6)));
        }
        for (int k = 0; k <= told; k++) {
            all.add(x.whose(k, 1));
        }
        return all;
    }

    void same(String what, LentSundays x, List<Integer> before) {
        List<Integer> after = seen(x);
        due(what + ": from " + before + " to " + after, after.equals(before), true);
    }

    /** A house whose guest 0 has died; guest 1 is alive and in no Sunday, and it is week 1. */
    static LentSundays withADeadGuest(String sundaysAndGuests) {
        LentSundays x = Check.of(sundaysAndGuests + " rests = 99; death 1;");
        x.letIn(0, 0);
        x.weeks(1);
        return x;
    }

    /** LOT 100 by numbers of 64 bits, of which the lower 32 are kept. */
    static int lot(int seed, int which) {
        long h = seed;
        for (long it : new long[] {165, which}) {
            h = (h ^ it) * 1103515245L + 12345L & 0xffffffffL;
            h ^= h >> 15;
        }
        return (int) ((h >> 1) % 100);
    }

    /** The least seed by which this lot falls to a guest in a week. */
    static int seedOf(int lot, int week, int guest) {
        int seed = 0;
        while (lot(seed, 8 * week + guest) != lot) {
            seed++;
        }
        return seed;
    }

    static int[] numbers(int... row) {
        return Arrays.copyOf(row, row.length);
    }
}
