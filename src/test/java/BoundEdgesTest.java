/** Promises 7 to 11: the sentences that name a boundary case, one test for each. */
public final class BoundEdgesTest {
    private static final int ALL = Check.interval(-16, 15);
    private static final int[] GOOD = {0, 31, 1023, Check.interval(-3, 4)};
    private static final int[] LIMITS = {Integer.MIN_VALUE, Integer.MIN_VALUE + 1, -1000000, -51, 51,
        1000000, Integer.MAX_VALUE - 1, Integer.MAX_VALUE};

    /** A question about a box, so that one test of its intervals serves every method. */
    private interface Question {
        int ask(ReluBounds x, int first, int second);
    }

    public static void main(String[] args) {
        mostOfOnePair();
        mostBelowZero();
        mostIntervals();
        leastOfOnePair();
        leastAboveZero();
        leastIntervals();
        mostAtOnePair();
        mostAtFirstOfEqual();
        mostAtAfterADent();
        mostAtIntervals();
        safeAtMostLimit();
        safeAnyInt();
        safeIntervals();
        breachGreaterThanLimit();
        breachFirst();
        breachNone();
        breachAnyInt();
        breachIntervals();
        Check.end();
    }

    private static void badFirst(String method, int want, Question question) {
        for (int bad : Check.badIntervals()) {
            for (int good : GOOD) {
                ReluBounds x = Check.network(0, 1, 9, 1, 17, 1, 19, 9);
                Check.due(method + "(" + bad + ", " + good + ")", want, question.ask(x, bad, good));
            }
        }
    }

    private static void badSecond(String method, int want, Question question) {
        for (int bad : Check.badIntervals()) {
            for (int good : GOOD) {
                ReluBounds x = Check.network(0, 1, 9, 1, 17, 1, 19, 9);
                Check.due(method + "(" + good + ", " + bad + ")", want, question.ask(x, good, bad));
            }
            ReluBounds x = Check.network(0, 1, 9, 1, 17, 1, 19, 9);
            Check.due(method + "(" + bad + ", " + bad + ")", want, question.ask(x, bad, bad));
        }
    }

    private static void mostOfOnePair() {
        Check.sentence("Promise 7: The greatest result on a box");
        int box = Check.interval(-4, 3);
        for (int p0 = -4; p0 <= 3; p0++) {
            for (int p1 = -4; p1 <= 3; p1++) {
                String where = " spike at " + p0 + ", " + p1;
                Check.due("most," + where, 5, Check.spike(p0, p1, 5).most(box, box));
                Check.due("most, a downward" + where, 0, Check.spike(p0, p1, -5).most(box, box));
            }
        }
    }

    private static void mostBelowZero() {
        Check.sentence("Promise 7: The greatest result on a box: all results below 0");
        for (int p0 = -16; p0 <= 15; p0++) {
            ReluBounds x = Check.spike(p0, -p0 - 1, 1);
            x.set(19, -50);
            Check.due("most, spike at " + p0, -49, x.most(ALL, ALL));
        }
        Check.due("most, -50 everywhere", -50, Check.network(19, -50).most(ALL, ALL));
    }

    private static void mostIntervals() {
        Check.sentence("Promise 7: -1000000 if first is not good");
        badFirst("most", -1000000, (x, first, second) -> x.most(first, second));
        Check.sentence("Promise 7: -1000000 if second is not good");
        badSecond("most", -1000000, (x, first, second) -> x.most(first, second));
    }

    private static void leastOfOnePair() {
        Check.sentence("Promise 8: The least result on a box");
        int box = Check.interval(-4, 3);
        for (int p0 = -4; p0 <= 3; p0++) {
            for (int p1 = -4; p1 <= 3; p1++) {
                String where = " spike at " + p0 + ", " + p1;
                Check.due("least, a downward" + where, -5, Check.spike(p0, p1, -5).least(box, box));
                Check.due("least," + where, 0, Check.spike(p0, p1, 5).least(box, box));
            }
        }
    }

    private static void leastAboveZero() {
        Check.sentence("Promise 8: The least result on a box: all results above 0");
        for (int p0 = -16; p0 <= 15; p0++) {
            ReluBounds x = Check.spike(p0, -p0 - 1, -1);
            x.set(19, 50);
            Check.due("least, downward spike at " + p0, 49, x.least(ALL, ALL));
        }
        Check.due("least, 50 everywhere", 50, Check.network(19, 50).least(ALL, ALL));
    }

    private static void leastIntervals() {
        Check.sentence("Promise 8: -1000000 if first is not good");
        badFirst("least", -1000000, (x, first, second) -> x.least(first, second));
        Check.sentence("Promise 8: -1000000 if second is not good");
        badSecond("least", -1000000, (x, first, second) -> x.least(first, second));
    }

    private static void mostAtOnePair() {
        Check.sentence("Promise 9: The input pair of a box with the greatest result on it");
        int box = Check.interval(-4, 3);
        for (int p0 = -4; p0 <= 3; p0++) {
            for (int p1 = -4; p1 <= 3; p1++) {
                Check.due("mostAt, spike at " + p0 + ", " + p1, Check.pair(p0, p1),
                        Check.spike(p0, p1, 5).mostAt(box, box));
            }
        }
    }

    private static void mostAtFirstOfEqual() {
        Check.sentence("Promise 9: The first input pair with the greatest result");
        for (int low0 = -16; low0 <= 15; low0++) {
            for (int low1 = -16; low1 <= 15; low1++) {
                int first = Check.interval(low0, 15);
                int second = Check.interval(low1, 15);
                Check.due("mostAt, all equal, from " + low0 + ", " + low1, Check.pair(low0, low1),
                        new ReluBounds().mostAt(first, second));
            }
        }
    }

    private static void mostAtAfterADent() {
        Check.sentence("Promise 9: The first input pair with the greatest result: the box's first is less");
        int row = Check.interval(-4, -4);
        int wide = Check.interval(-4, 3);
        ReluBounds x = Check.dent(-4, -4);
        Check.due("mostAt, wide", Check.pair(-4, -3), x.mostAt(wide, wide));
        Check.due("mostAt, one x0", Check.pair(-4, -3), x.mostAt(row, wide));
        Check.due("mostAt, one x1", Check.pair(-3, -4), x.mostAt(wide, row));
        Check.due("mostAt, one pair", Check.pair(-4, -4), x.mostAt(row, row));
        Check.due("mostAt, wide, a later dent", Check.pair(-4, -4), Check.dent(-4, -3).mostAt(wide, wide));
        Check.due("mostAt, dent at pair 0", 1, Check.dent(-16, -16).mostAt(ALL, ALL));
        Check.due("mostAt, dent at pair 1023", 0, Check.dent(15, 15).mostAt(ALL, ALL));
        // Pair 31 is (-16, 15), and pair 32 is (-15, -16).
        int last = Check.interval(15, 15);
        Check.due("mostAt, dent at pair 31", Check.pair(-15, 15), Check.dent(-16, 15).mostAt(ALL, last));
    }

    private static void mostAtIntervals() {
        Check.sentence("Promise 9: -1 if first is not good");
        badFirst("mostAt", -1, (x, first, second) -> x.mostAt(first, second));
        Check.sentence("Promise 9: -1 if second is not good");
        badSecond("mostAt", -1, (x, first, second) -> x.mostAt(first, second));
    }

    private static void safeAtMostLimit() {
        Check.sentence("Promise 10: 1 if all results on a box are at most limit, otherwise 0");
        int box = Check.interval(-4, 3);
        for (int p0 = -4; p0 <= 3; p0++) {
            for (int p1 = -4; p1 <= 3; p1++) {
                ReluBounds x = Check.spike(p0, p1, 5);
                String where = ", spike at " + p0 + ", " + p1;
                Check.due("safe above the most" + where, 1, x.safe(box, box, 6));
                Check.due("safe at the most" + where, 1, x.safe(box, box, 5));
                Check.due("safe below the most" + where, 0, x.safe(box, box, 4));
                Check.due("safe at the least" + where, 0, x.safe(box, box, 0));
                Check.due("safe below all" + where, 0, x.safe(box, box, -1));
            }
        }
    }

    private static void safeAnyInt() {
        Check.sentence("Promise 10: limit (any int)");
        for (int result : new int[] {-50, 0, 50}) {
            for (int limit : LIMITS) {
                Check.due("safe, all " + result + ", limit " + limit, result <= limit ? 1 : 0,
                        Check.network(19, result).safe(ALL, ALL, limit));
            }
        }
    }

    private static void safeIntervals() {
        for (int limit : new int[] {Integer.MIN_VALUE, 9, 100, Integer.MAX_VALUE}) {
            Check.sentence("Promise 10: -1 if first is not good, limit " + limit);
            badFirst("safe", -1, (x, first, second) -> x.safe(first, second, limit));
            Check.sentence("Promise 10: -1 if second is not good, limit " + limit);
            badSecond("safe", -1, (x, first, second) -> x.safe(first, second, limit));
        }
    }

    private static void breachGreaterThanLimit() {
        Check.sentence("Promise 11: The input pair of a box whose result is greater than limit");
        int box = Check.interval(-4, 3);
        for (int p0 = -4; p0 <= 3; p0++) {
            for (int p1 = -4; p1 <= 3; p1++) {
                ReluBounds x = Check.spike(p0, p1, 5);
                String where = ", spike at " + p0 + ", " + p1;
                Check.due("breach at the most" + where, -2, x.breach(box, box, 5));
                Check.due("breach below the most" + where, Check.pair(p0, p1), x.breach(box, box, 4));
                Check.due("breach at the least" + where, Check.pair(p0, p1), x.breach(box, box, 0));
                Check.due("breach below all" + where, Check.pair(-4, -4), x.breach(box, box, -1));
            }
        }
    }

    // The result is x0 + x1 where that is more than 0: the first breach isn't the greatest one.
    private static void breachFirst() {
        Check.sentence("Promise 11: The first input pair");
        ReluBounds x = Check.network(0, 1, 1, 1, 9, 1, 17, 1);
        for (int limit = 0; limit < 30; limit++) {
            int x0 = Math.max(-16, limit + 1 - 15);
            Check.due("breach, limit " + limit, Check.pair(x0, limit + 1 - x0), x.breach(ALL, ALL, limit));
        }
        Check.due("breach at 30", -2, x.breach(ALL, ALL, 30));
        ReluBounds dent = Check.dent(-16, -16);
        Check.due("breach after pair 0", 1, dent.breach(ALL, ALL, 0));
        Check.due("breach after pair 0, one x1", 32, dent.breach(ALL, Check.interval(-16, -16), 0));
        Check.due("breach at pair 0", 0, Check.dent(-16, -15).breach(ALL, ALL, 0));
    }

    private static void breachNone() {
        Check.sentence("Promise 11: -2 if there is none");
        for (int p0 = -16; p0 <= 15; p0++) {
            ReluBounds x = Check.spike(p0, p0, 1);
            Check.due("breach, spike at " + p0 + ", limit 1", -2, x.breach(ALL, ALL, 1));
            Check.due("breach, spike at " + p0 + ", on itself", -2,
                    x.breach(Check.interval(p0, p0), Check.interval(p0, p0), 1));
        }
        Check.due("breach on a new object", -2, new ReluBounds().breach(ALL, ALL, 0));
    }

    private static void breachAnyInt() {
        Check.sentence("Promise 11: limit (any int, as for safe)");
        for (int result : new int[] {-50, 0, 50}) {
            for (int limit : LIMITS) {
                Check.due("breach, all " + result + ", limit " + limit, result > limit ? 0 : -2,
                        Check.network(19, result).breach(ALL, ALL, limit));
            }
        }
    }

    private static void breachIntervals() {
        for (int limit : new int[] {Integer.MIN_VALUE, 9, 100, Integer.MAX_VALUE}) {
            Check.sentence("Promise 11: -1 if first is not good, limit " + limit);
            badFirst("breach", -1, (x, first, second) -> x.breach(first, second, limit));
            Check.sentence("Promise 11: -1 if second is not good, limit " + limit);
            badSecond("breach", -1, (x, first, second) -> x.breach(first, second, limit));
        }
    }
}
