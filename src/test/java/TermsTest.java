/** The sentences of 'What it is' and of 'Terms' that name a boundary case, one test for each. */
public final class TermsTest {
    private static final int ALL = Check.interval(-16, 15);
    private static final int LAST_CALL = 512;

    public static void main(String[] args) {
        at512Calls();
        clipOfAnInnerUnit();
        clipOfAnOuterUnit();
        resultIsNotClipped();
        rangesOfTheNumbers();
        placesOfTheNumbers();
        boxHoldsItsEnds();
        smallestAndGreatestBox();
        intervalsAsNumbers();
        pairsAsNumbers();
        orderOfPairs();
        noQuestionChangesAnything();
        noQuestionIsRemembered();
        refusedCallChangesNothing();
        testsInTheOrderNamed();
        goodInterval();
        goodInput();
        Check.end();
    }

    private static void at512Calls() {
        Check.sentence("An object is used for at most 512 calls");
        for (int last = 0; last < 13; last++) {
            ReluBounds x = Check.network(0, 1, 9, 1, 17, 1);
            for (int call = 4; call < LAST_CALL; call++) {
                Check.due("set(19, ..), call " + call, 1, x.set(19, call % 2 == 0 ? 50 : -50));
            }
            // The result is now clip of x0, less 50.
            lastCall(last, x);
        }
    }

    private static void lastCall(int method, ReluBounds x) {
        switch (method) {
            case 0 -> Check.due("set as call 512", 0, x.set(19, -50));
            case 1 -> Check.due("sow as call 512", 0, x.sow(100, 20));
            case 2 -> Check.due("get as call 512", -50, x.get(19));
            case 3 -> Check.due("result as call 512", -35, x.result(15, 0));
            case 4 -> Check.due("unit as call 512", 15, x.unit(3, 15, 0));
            case 5 -> Check.due("most as call 512", -35, x.most(ALL, ALL));
            case 6 -> Check.due("least as call 512", -50, x.least(ALL, ALL));
            case 7 -> Check.due("mostAt as call 512", Check.pair(15, -16), x.mostAt(ALL, ALL));
            case 8 -> Check.due("safe as call 512", 1, x.safe(ALL, ALL, -35));
            case 9 -> Check.due("breach as call 512", Check.pair(1, -16), x.breach(ALL, ALL, -50));
            case 10 -> Check.due("fixed as call 512", 1, x.fixed(4, ALL, ALL));
            case 11 -> Check.due("radius as call 512", 14, x.radius(0, 0, -36));
            default -> Check.due("patterns as call 512", 2, x.patterns(ALL, ALL));
        }
    }

    private static void clipOfAnInnerUnit() {
        Check.sentence("THE CLIP of a number t is t if t > 0, and 0 otherwise: h0, h1, h2");
        for (int k = 0; k < 3; k++) {
            for (int t = -50; t <= 50; t++) {
                ReluBounds x = Check.network(6 + k, t);
                Check.due("unit " + k + " of the sum " + t, t > 0 ? t : 0, x.unit(k, 0, 0));
            }
            // The least and the greatest sum: 5 * -16 + 5 * -16 - 50 and 5 * 16 + 5 * 16 + 50.
            ReluBounds low = Check.network(2 * k, 5, 2 * k + 1, 5, 6 + k, -50);
            Check.due("unit " + k + " of the sum -210", 0, low.unit(k, -16, -16));
            ReluBounds high = Check.network(2 * k, -5, 2 * k + 1, -5, 6 + k, 50);
            Check.due("unit " + k + " of the sum 210", 210, high.unit(k, -16, -16));
        }
    }

    private static void clipOfAnOuterUnit() {
        Check.sentence("THE CLIP of a number t is t if t > 0, and 0 otherwise: g0, g1");
        for (int k = 0; k < 2; k++) {
            for (int t = -50; t <= 50; t++) {
                ReluBounds x = Check.network(15 + k, t);
                Check.due("unit " + (3 + k) + " of the sum " + t, t > 0 ? t : 0, x.unit(3 + k, 0, 0));
            }
            extremeOuterSum(k, -5, -50, 0);
            extremeOuterSum(k, 5, 50, 3200);
        }
    }

    // Every inner unit gives 210 for (-16, -16): the sum is 3 * factor * 210 + offset.
    private static void extremeOuterSum(int k, int factor, int offset, int want) {
        ReluBounds x = Check.network(0, -5, 1, -5, 2, -5, 3, -5, 4, -5, 5, -5, 6, 50, 7, 50, 8, 50,
                9 + 3 * k, factor, 10 + 3 * k, factor, 11 + 3 * k, factor, 15 + k, offset);
        Check.due("unit " + (3 + k) + " of three times " + factor + " * 210", want, x.unit(3 + k, -16, -16));
    }

    private static void resultIsNotClipped() {
        Check.sentence("the result is e(0) * g0 + e(1) * g1 + f");
        Check.due("result of f alone", -50, Check.network(19, -50).result(0, 0));
        Check.due("result of -5 * g0", -250, Check.network(15, 50, 17, -5).result(0, 0));
        Check.due("result of -5 * g1", -250, Check.network(16, 50, 18, -5).result(0, 0));
        Check.due("result of 0", 0, Check.network(15, 50, 16, 50, 17, 1, 18, -1).result(0, 0));
        // g0 = g1 = 3200 for (-16, -16): 10 * 3200 + 50 is the greatest result of any network.
        for (int sign = -1; sign <= 1; sign += 2) {
            ReluBounds x = Check.network(0, -5, 1, -5, 2, -5, 3, -5, 4, -5, 5, -5, 6, 50, 7, 50, 8, 50,
                    9, 5, 10, 5, 11, 5, 12, 5, 13, 5, 14, 5, 15, 50, 16, 50,
                    17, 5 * sign, 18, 5 * sign, 19, 50 * sign);
            Check.due("result at its extreme", 32050 * sign, x.result(-16, -16));
            Check.due("most at its extreme", sign > 0 ? 32050 : -550, x.most(ALL, ALL));
            Check.due("least at its extreme", sign > 0 ? 550 : -32050, x.least(ALL, ALL));
        }
    }

    private static void rangesOfTheNumbers() {
        Check.sentence("All factors a, c and e are -5 .. 5, and all offsets b, d and f are -50 .. 50");
        int[] bounds = {5, 5, 5, 5, 5, 5, 50, 50, 50, 5, 5, 5, 5, 5, 5, 50, 50, 5, 5, 50};
        for (int place = 0; place < bounds.length; place++) {
            for (int value = -60; value <= 60; value++) {
                ReluBounds x = new ReluBounds();
                boolean good = value >= -bounds[place] && value <= bounds[place];
                int want = good ? (value == 0 ? 0 : 1) : -2;
                Check.due("set(" + place + ", " + value + ")", want, x.set(place, value));
                Check.due("get(" + place + ") then", good ? value : 0, x.get(place));
            }
        }
    }

    // In a network where every unit stays above 0, each number moves the six values in its own way.
    private static void placesOfTheNumbers() {
        Check.sentence("The numbers have PLACES");
        int[] before = {0, 0, 0, 0, 0, 0, 20, 30, 40, 1, 1, 1, 1, 1, 1, 50, 50, 1, 1, 0};
        int[][] moves = {
            {3, 0, 0, 3, 3, 6}, {7, 0, 0, 7, 7, 14}, {0, 3, 0, 3, 3, 6}, {0, 7, 0, 7, 7, 14},
            {0, 0, 3, 3, 3, 6}, {0, 0, 7, 7, 7, 14}, {1, 0, 0, 1, 1, 2}, {0, 1, 0, 1, 1, 2},
            {0, 0, 1, 1, 1, 2}, {0, 0, 0, 20, 0, 20}, {0, 0, 0, 30, 0, 30}, {0, 0, 0, 40, 0, 40},
            {0, 0, 0, 0, 20, 20}, {0, 0, 0, 0, 30, 30}, {0, 0, 0, 0, 40, 40}, {0, 0, 0, -1, 0, -1},
            {0, 0, 0, 0, -1, -1}, {0, 0, 0, 0, 0, 140}, {0, 0, 0, 0, 0, 140}, {0, 0, 0, 0, 0, 1}};
        int[] plain = {20, 30, 40, 140, 140, 280};
        for (int place = 0; place < before.length; place++) {
            ReluBounds x = new ReluBounds();
            for (int other = 0; other < before.length; other++) {
                x.set(other, before[other]);
            }
            int step = before[place] == 50 ? -1 : 1;
            Check.due("set(" + place + ") to one more", 1, x.set(place, before[place] + step));
            for (int unit = 0; unit < 5; unit++) {
                Check.due("unit " + unit + " with place " + place + " moved",
                        plain[unit] + moves[place][unit], x.unit(unit, 3, 7));
            }
            Check.due("result with place " + place + " moved", plain[5] + moves[place][5], x.result(3, 7));
        }
    }

    private static void boxHoldsItsEnds() {
        Check.sentence("the pairs of whole inputs with low0 <= x0 <= high0 and low1 <= x1 <= high1");
        for (int p0 = -16; p0 <= 15; p0++) {
            for (int p1 = -16; p1 <= 15; p1++) {
                spikeAndBox(p0, p1, -5, 3, -9, 4);
                spikeAndBox(p0, p1, -16, -2, 6, 15);
            }
        }
    }

    private static void spikeAndBox(int p0, int p1, int low0, int high0, int low1, int high1) {
        ReluBounds x = Check.spike(p0, p1, 1);
        ReluBounds down = Check.spike(p0, p1, -1);
        int first = Check.interval(low0, high0);
        int second = Check.interval(low1, high1);
        boolean inside = p0 >= low0 && p0 <= high0 && p1 >= low1 && p1 <= high1;
        String where = " with the spike at " + p0 + ", " + p1 + " on " + first + ", " + second;
        Check.due("most" + where, inside ? 1 : 0, x.most(first, second));
        Check.due("least" + where, inside ? -1 : 0, down.least(first, second));
        Check.due("mostAt" + where, inside ? Check.pair(p0, p1) : Check.pair(low0, low1),
                x.mostAt(first, second));
        Check.due("safe" + where, inside ? 0 : 1, x.safe(first, second, 0));
        Check.due("breach" + where, inside ? Check.pair(p0, p1) : -2, x.breach(first, second, 0));
        Check.due("fixed" + where, inside ? 0 : 1, x.fixed(3, first, second));
    }

    private static void smallestAndGreatestBox() {
        Check.sentence("A BOX is given by four numbers low0 <= high0 and low1 <= high1, each -16 .. 15");
        for (int p0 = -16; p0 <= 15; p0++) {
            for (int p1 = -16; p1 <= 15; p1++) {
                ReluBounds x = Check.spike(p0, p1, 1);
                int first = Check.interval(p0, p0);
                int second = Check.interval(p1, p1);
                String where = " with the spike at " + p0 + ", " + p1;
                Check.due("most on one pair" + where, 1, x.most(first, second));
                Check.due("least on one pair" + where, 1, x.least(first, second));
                Check.due("least on all pairs" + where, 0, x.least(ALL, ALL));
                Check.due("mostAt on one pair" + where, Check.pair(p0, p1), x.mostAt(first, second));
                Check.due("mostAt on all pairs" + where, Check.pair(p0, p1), x.mostAt(ALL, ALL));
                Check.due("fixed on one pair" + where, 2, x.fixed(3, first, second));
                Check.due("patterns on one pair" + where, 1, x.patterns(first, second));
            }
        }
    }

    // The result is x0, then x1, each made of clip of (x + 16), less 16.
    private static void intervalsAsNumbers() {
        Check.sentence("An interval low .. high is written as the number 32 * (low + 16) + (high + 16)");
        for (int interval : Check.goodIntervals()) {
            int low = interval / 32 - 16;
            int high = interval % 32 - 16;
            ReluBounds x = Check.network(0, 1, 6, 16, 9, 1, 17, 1, 19, -16);
            Check.due("least, first = " + interval, low, x.least(interval, 0));
            Check.due("most, first = " + interval, high, x.most(interval, 1023));
            ReluBounds y = Check.network(1, 1, 6, 16, 9, 1, 17, 1, 19, -16);
            Check.due("least, second = " + interval, low, y.least(0, interval));
            Check.due("most, second = " + interval, high, y.most(1023, interval));
        }
    }

    private static void pairsAsNumbers() {
        Check.sentence("An input pair is written as 32 * (x0 + 16) + (x1 + 16)");
        for (int number = 0; number < 1024; number++) {
            ReluBounds x = Check.spike(number / 32 - 16, number % 32 - 16, 1);
            Check.due("mostAt with the spike at pair " + number, number, x.mostAt(ALL, ALL));
            Check.due("breach with the spike at pair " + number, number, x.breach(ALL, ALL, 0));
        }
    }

    // The result is 1 where x0 + x1 = sum, and 0 elsewhere.
    private static void orderOfPairs() {
        Check.sentence("pairs are ordered by these numbers");
        for (int sum = -32; sum <= 30; sum++) {
            ReluBounds x = Check.network(0, 1, 1, 1, 6, -sum, 2, -1, 3, -1, 7, sum,
                    9, -1, 10, -1, 15, 1, 17, 1);
            int x0 = Math.max(-16, sum - 15);
            Check.due("mostAt on the line of " + sum, Check.pair(x0, sum - x0), x.mostAt(ALL, ALL));
            Check.due("breach on the line of " + sum, Check.pair(x0, sum - x0), x.breach(ALL, ALL, 0));
        }
    }

    private static void noQuestionChangesAnything() {
        Check.sentence("No question changes anything");
        for (int question = 0; question < 11; question++) {
            ReluBounds x = new ReluBounds();
            x.sow(50, 13);
            int[] before = Check.numbersOf(x);
            int good = ask(question, x, 3, 3, ALL);
            int bad = ask(question, x, -1, 16, 1024);
            Check.sameNumbers("after question " + question, before, x);
            Check.due("question " + question + " again", good, ask(question, x, 3, 3, ALL));
            Check.due("refused question " + question + " again", bad, ask(question, x, -1, 16, 1024));
            Check.due("sow after question " + question, 0, x.sow(50, 13));
            Check.sameNumbers("after question " + question + " and sow", before, x);
            for (int next = 0; next < 11; next++) {
                askAfter(question, next);
            }
        }
    }

    // Compared with an object that was asked nothing before, as get too might change something.
    private static void askAfter(int question, int next) {
        ReluBounds used = new ReluBounds();
        used.sow(50, 13);
        ask(question, used, 3, 3, ALL);
        ask(question, used, -1, 16, 1024);
        ReluBounds fresh = new ReluBounds();
        fresh.sow(50, 13);
        Check.due("question " + next + " after question " + question,
                ask(next, fresh, 4, -2, ALL), ask(next, used, 4, -2, ALL));
    }

    private static int ask(int question, ReluBounds x, int unit, int input, int interval) {
        return switch (question) {
            case 0 -> x.get(unit);
            case 1 -> x.result(input, input);
            case 2 -> x.unit(unit, input, input);
            case 3 -> x.most(interval, interval);
            case 4 -> x.least(interval, interval);
            case 5 -> x.mostAt(interval, interval);
            case 6 -> x.safe(interval, interval, 100);
            case 7 -> x.breach(interval, interval, 100);
            case 8 -> x.fixed(unit, interval, interval);
            case 9 -> x.radius(input, input, 100);
            default -> x.patterns(interval, interval);
        };
    }

    private static void noQuestionIsRemembered() {
        Check.sentence("No question changes anything: the next one is answered by the numbers of then");
        for (int question = 0; question < 11; question++) {
            ReluBounds used = new ReluBounds();
            for (int seed = 0; seed <= 100; seed += 10) {
                ReluBounds fresh = new ReluBounds();
                fresh.sow(seed, 7);
                used.sow(seed, 7);
                Check.due("question " + question + " after sow(" + seed + ", 7)",
                        ask(question, fresh, 3, 3, ALL), ask(question, used, 3, 3, ALL));
                fresh.set(19, 50);
                used.set(19, 50);
                Check.due("question " + question + " after sow(" + seed + ", 7) and set",
                        ask(question, fresh, 3, 3, ALL), ask(question, used, 3, 3, ALL));
            }
        }
    }

    private static void refusedCallChangesNothing() {
        Check.sentence("A refused call changes nothing");
        for (int place : Check.badPlaces()) {
            ReluBounds x = Check.network(0, 5, 5, -5, 6, 50, 18, 2, 19, -50);
            int[] before = Check.numbersOf(x);
            Check.due("set(" + place + ", 1)", -1, x.set(place, 1));
            Check.sameNumbers("after set(" + place + ", 1)", before, x);
        }
        for (int place = 0; place < Check.PLACES; place++) {
            for (int value : new int[] {-51, 51, Integer.MIN_VALUE, Integer.MAX_VALUE}) {
                ReluBounds x = Check.network(0, 5, 5, -5, 6, 50, 18, 2, 19, -50);
                int[] before = Check.numbersOf(x);
                Check.due("set(" + place + ", " + value + ")", -2, x.set(place, value));
                Check.sameNumbers("after set(" + place + ", " + value + ")", before, x);
            }
        }
        int[][] refusedSows = {{-1, 0}, {101, 0}, {0, -1}, {0, 21}, {-1, 21}, {101, -1}};
        for (int[] sow : refusedSows) {
            ReluBounds x = Check.network(0, 5, 5, -5, 6, 50, 18, 2, 19, -50);
            int[] before = Check.numbersOf(x);
            Check.due("sow(" + sow[0] + ", " + sow[1] + ") is refused", 1, x.sow(sow[0], sow[1]) < 0 ? 1 : 0);
            Check.sameNumbers("after sow(" + sow[0] + ", " + sow[1] + ")", before, x);
        }
    }

    private static void testsInTheOrderNamed() {
        Check.sentence("In every method the tests are made in the order named");
        ReluBounds x = Check.network(19, 9);
        Check.due("set, both wrong", -1, x.set(20, 51));
        Check.due("set, both wrong", -1, x.set(-1, Integer.MIN_VALUE));
        Check.due("sow, both wrong", -1, x.sow(101, 21));
        Check.due("sow, both wrong", -1, x.sow(-1, -1));
        Check.due("unit, all wrong", -1, x.unit(5, 16, 16));
        Check.due("unit, unit and x0 wrong", -1, x.unit(-1, -17, 0));
        Check.due("unit, unit and x1 wrong", -1, x.unit(-1, 0, -17));
        Check.due("fixed, all wrong", -1, x.fixed(5, 32, 1024));
        Check.due("fixed, unit and first wrong", -1, x.fixed(-1, -1, 0));
        Check.due("fixed, unit and second wrong", -1, x.fixed(-1, 0, -1));
        // A wrong interval or input is told before the limit is looked at.
        Check.due("breach, none and first wrong", -1, x.breach(32, 0, 9));
        Check.due("safe, first wrong and not safe", -1, x.safe(32, 0, 8));
        Check.due("radius, x0 wrong and result greater", -1, x.radius(16, 0, 8));
        Check.due("radius, x1 wrong and no greatest", -1, x.radius(0, -17, 9));
    }

    private static void goodInterval() {
        Check.sentence("an interval is good if it is 0 .. 1023 with low <= high");
        for (int interval : Check.goodIntervals()) {
            askBox(interval, 0, true);
            askBox(1023, interval, true);
        }
        for (int interval : Check.badIntervals()) {
            askBox(interval, 0, false);
            askBox(1023, interval, false);
        }
    }

    private static void askBox(int first, int second, boolean good) {
        ReluBounds x = Check.network(19, 9);
        String box = "(" + first + ", " + second + ")";
        Check.due("most" + box, good ? 9 : -1000000, x.most(first, second));
        Check.due("least" + box, good ? 9 : -1000000, x.least(first, second));
        Check.due("mostAt" + box, good ? first / 32 * 32 + second / 32 : -1, x.mostAt(first, second));
        Check.due("safe" + box, good ? 1 : -1, x.safe(first, second, 9));
        Check.due("breach" + box, good ? -2 : -1, x.breach(first, second, 9));
        Check.due("fixed" + box, good ? 1 : -2, x.fixed(0, first, second));
        Check.due("patterns" + box, good ? 1 : -1, x.patterns(first, second));
    }

    private static void goodInput() {
        Check.sentence("an input [is good] if it is -16 .. 15");
        for (int x = -16; x <= 15; x++) {
            askPair(x, -16, true);
            askPair(15, x, true);
        }
        for (int x : Check.badInputs()) {
            askPair(x, -16, false);
            askPair(15, x, false);
        }
    }

    private static void askPair(int x0, int x1, boolean good) {
        ReluBounds x = Check.network(19, 9);
        String pair = "(" + x0 + ", " + x1 + ")";
        Check.due("result" + pair, good ? 9 : -1000000, x.result(x0, x1));
        Check.due("unit 0" + pair, good ? 0 : -2, x.unit(0, x0, x1));
        Check.due("radius" + pair, good ? 31 : -1, x.radius(x0, x1, 9));
    }
}
