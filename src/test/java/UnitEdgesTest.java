/** Promises 12 and 14: the sentences that name a boundary case, one test for each. */
public final class UnitEdgesTest {
    private static final int ALL = Check.interval(-16, 15);
    private static final int BOX = Check.interval(-4, 3);

    public static void main(String[] args) {
        fixedZeroForAll();
        fixedMoreForAll();
        fixedOtherwise();
        fixedUnit();
        fixedFirst();
        fixedSecond();
        patternMoreThanZero();
        patternHasAMarkForEachUnit();
        patternOfAllAndNone();
        patternsDifferent();
        patternsToldApart();
        patternsOfOnePair();
        patternsMany();
        patternsFirst();
        patternsSecond();
        Check.end();
    }

    // Unit k gives clip of x0: an inner unit by itself, an outer one out of h0 = x0 + 17.
    private static ReluBounds rising(int unit) {
        return unit < 3 ? Check.network(2 * unit, 1)
                : Check.network(0, 1, 6, 17, 9 + 3 * (unit - 3), 1, 15 + unit - 3, -17);
    }

    private static void fixedZeroForAll() {
        Check.sentence("Promise 12: 1 if a unit gives 0 for all input pairs of a box");
        for (int unit = 0; unit < 5; unit++) {
            ReluBounds x = rising(unit);
            Check.due("fixed " + unit + " on -16 .. 0", 1, x.fixed(unit, Check.interval(-16, 0), ALL));
            Check.due("fixed " + unit + " on 0 .. 0", 1, x.fixed(unit, Check.interval(0, 0), ALL));
            Check.due("fixed " + unit + " on -1 .. -1", 1, x.fixed(unit, Check.interval(-1, -1), ALL));
            Check.due("fixed " + unit + " of zeros", 1, new ReluBounds().fixed(unit, ALL, ALL));
        }
    }

    private static void fixedMoreForAll() {
        Check.sentence("Promise 12: 2 if it gives more than 0 for all");
        for (int unit = 0; unit < 5; unit++) {
            ReluBounds x = rising(unit);
            Check.due("fixed " + unit + " on 1 .. 15", 2, x.fixed(unit, Check.interval(1, 15), ALL));
            Check.due("fixed " + unit + " on 1 .. 1", 2, x.fixed(unit, Check.interval(1, 1), ALL));
            int offset = unit < 3 ? 6 + unit : 12 + unit;
            Check.due("fixed " + unit + " of ones", 2, Check.network(offset, 1).fixed(unit, ALL, ALL));
        }
    }

    private static void fixedOtherwise() {
        Check.sentence("Promise 12: 0 otherwise");
        for (int unit = 0; unit < 5; unit++) {
            ReluBounds x = rising(unit);
            Check.due("fixed " + unit + " on 0 .. 1", 0, x.fixed(unit, Check.interval(0, 1), ALL));
            Check.due("fixed " + unit + " on -16 .. 1", 0, x.fixed(unit, Check.interval(-16, 1), ALL));
            Check.due("fixed " + unit + " on 0 .. 15", 0, x.fixed(unit, Check.interval(0, 15), ALL));
        }
        for (int p0 = -5; p0 <= 4; p0++) {
            for (int p1 = -5; p1 <= 4; p1++) {
                onePairApart(p0, p1);
            }
        }
    }

    // g0 is more than 0 at one pair alone, g1 is 0 at that pair alone.
    private static void onePairApart(int p0, int p1) {
        ReluBounds x = Check.spike(p0, p1, 1);
        x.set(12, 1);
        x.set(13, 1);
        x.set(14, 1);
        boolean inside = p0 >= -4 && p0 <= 3 && p1 >= -4 && p1 <= 3;
        int first = Check.interval(p0, p0);
        int second = Check.interval(p1, p1);
        String where = ", the one pair " + p0 + ", " + p1;
        Check.due("fixed 3" + where, inside ? 0 : 1, x.fixed(3, BOX, BOX));
        Check.due("fixed 4" + where, inside ? 0 : 2, x.fixed(4, BOX, BOX));
        Check.due("fixed 3 on it" + where, 2, x.fixed(3, first, second));
        Check.due("fixed 4 on it" + where, 1, x.fixed(4, first, second));
    }

    private static void fixedUnit() {
        Check.sentence("Promise 12: -1 if unit is not in 0 .. 4");
        for (int bad : Check.badUnits()) {
            ReluBounds x = Check.network(6, 1, 16, 1);
            Check.due("fixed(" + bad + ", all)", -1, x.fixed(bad, ALL, ALL));
            Check.due("fixed(" + bad + ", one pair)", -1, x.fixed(bad, 0, 1023));
        }
        Check.due("fixed(0, all)", 2, Check.network(6, 1).fixed(0, ALL, ALL));
        Check.due("fixed(4, all)", 2, Check.network(16, 1).fixed(4, ALL, ALL));
    }

    private static void fixedFirst() {
        Check.sentence("Promise 12: -2 if first is not good");
        for (int bad : Check.badIntervals()) {
            ReluBounds x = Check.network(6, 1, 16, 1);
            for (int unit = 0; unit < 5; unit++) {
                Check.due("fixed(" + unit + ", " + bad + ", all)", -2, x.fixed(unit, bad, ALL));
                Check.due("fixed(" + unit + ", " + bad + ", 1024)", -2, x.fixed(unit, bad, 1024));
            }
        }
    }

    private static void fixedSecond() {
        Check.sentence("Promise 12: -2 if second is not good");
        for (int bad : Check.badIntervals()) {
            ReluBounds x = Check.network(6, 1, 16, 1);
            for (int unit = 0; unit < 5; unit++) {
                Check.due("fixed(" + unit + ", all, " + bad + ")", -2, x.fixed(unit, ALL, bad));
                Check.due("fixed(" + unit + ", 0, " + bad + ")", -2, x.fixed(unit, 0, bad));
            }
        }
    }

    private static void patternMoreThanZero() {
        Check.sentence("Promise 14: whether it gives more than 0");
        for (int unit = 0; unit < 5; unit++) {
            ReluBounds x = rising(unit);
            Check.due("patterns of unit " + unit + " on -1 .. 0", 1, x.patterns(Check.interval(-1, 0), ALL));
            Check.due("patterns of unit " + unit + " on 0 .. 1", 2, x.patterns(Check.interval(0, 1), ALL));
            Check.due("patterns of unit " + unit + " on 1 .. 2", 1, x.patterns(Check.interval(1, 2), ALL));
            Check.due("patterns of unit " + unit + " on 1 .. 15", 1, x.patterns(Check.interval(1, 15), ALL));
        }
    }

    private static void patternHasAMarkForEachUnit() {
        Check.sentence("Promise 14: the row of five marks, for each of the five units");
        for (int unit = 0; unit < 5; unit++) {
            Check.due("patterns of unit " + unit + " alone", 2, rising(unit).patterns(ALL, ALL));
        }
    }

    private static void patternOfAllAndNone() {
        Check.sentence("Promise 14: the patterns with all marks and with none");
        Check.due("patterns, none", 1, new ReluBounds().patterns(ALL, ALL));
        ReluBounds all = Check.network(6, 1, 7, 1, 8, 1, 15, 1, 16, 1);
        Check.due("patterns, all", 1, all.patterns(ALL, ALL));
        ReluBounds both = Check.network(0, 1, 2, 1, 4, 1, 9, 1, 12, 1);
        Check.due("patterns, all and none", 2, both.patterns(ALL, ALL));
        Check.due("patterns, none alone", 1, both.patterns(Check.interval(-16, 0), ALL));
        Check.due("patterns, all alone", 1, both.patterns(Check.interval(1, 15), ALL));
    }

    // h0 = clip of x1 comes and goes with every x0, and is but two patterns.
    private static void patternsDifferent() {
        Check.sentence("Promise 14: How many different patterns the input pairs of a box have");
        ReluBounds x = Check.network(1, 1);
        Check.due("patterns that come again", 2, x.patterns(ALL, ALL));
        Check.due("patterns that come again, on 0 .. 1", 2, x.patterns(ALL, Check.interval(0, 1)));
        Check.due("one pattern that comes again", 1, x.patterns(ALL, Check.interval(1, 15)));
        // The marks are x0 > 0, x1 > 0 and x0 + x1 < 0: any of them but all three at once.
        ReluBounds three = Check.network(0, 1, 3, 1, 4, -1, 5, -1);
        Check.due("patterns of three lines", 7, three.patterns(ALL, ALL));
    }

    private static void patternsOfOnePair() {
        Check.sentence("Promise 14: the patterns of a box of one pair");
        for (int x0 = -16; x0 <= 15; x0++) {
            ReluBounds x = Check.network(0, 1, 3, 1, 4, -1, 5, -1, 9, 1, 14, 1);
            for (int x1 = -16; x1 <= 15; x1++) {
                Check.due("patterns at " + x0 + ", " + x1, 1,
                        x.patterns(Check.interval(x0, x0), Check.interval(x1, x1)));
            }
        }
    }

    private static void patternsToldApart() {
        Check.sentence("Promise 14: different patterns: every two of the 32 are told apart");
        for (int before = 0; before < 32; before++) {
            for (int after = 0; after < 32; after++) {
                // With no inner unit above 0 at either input the outer units can't change.
                if (((before | after) & 7) != 0 || before == after) {
                    ReluBounds x = stepping(before, after);
                    Check.due("the pattern at 0", before, marks(x, 0));
                    Check.due("the pattern at 1", after, marks(x, 1));
                    Check.due("patterns " + before + " at 0 and " + after + " at 1",
                            before == after ? 1 : 2, x.patterns(Check.interval(0, 1), ALL));
                }
            }
        }
    }

    private static int marks(ReluBounds x, int x0) {
        int marks = 0;
        for (int unit = 0; unit < 5; unit++) {
            marks |= x.unit(unit, x0, 0) > 0 ? 1 << unit : 0;
        }
        return marks;
    }

    // The units above 0 are those of one pattern for x0 = 0, and those of the other for x0 = 1.
    private static ReluBounds stepping(int before, int after) {
        ReluBounds x = new ReluBounds();
        for (int k = 0; k < 3; k++) {
            boolean was = (before >> k & 1) != 0;
            boolean is = (after >> k & 1) != 0;
            x.set(2 * k, is ? 1 : was ? -1 : 0);
            x.set(6 + k, was ? 1 : 0);
        }
        int lever = Integer.numberOfTrailingZeros((before | after) & 7);
        for (int k = 0; k < 2; k++) {
            int was = before >> 3 + k & 1;
            int is = after >> 3 + k & 1;
            if (was == is) {
                x.set(15 + k, was);
            } else {
                int slope = x.unit(lever, 1, 0) - x.unit(lever, 0, 0);
                int factor = (is - was) * slope;
                x.set(9 + 3 * k + lever, factor);
                x.set(15 + k, was - factor * x.unit(lever, 0, 0));
            }
        }
        return x;
    }

    private static void patternsMany() {
        Check.sentence("Promise 14: How many different patterns: more than half of the 32");
        int[] numbers = {5, 2, 4, -3, -3, 1, 15, -2, -10, 1, 5, 4, -2, -2, -1, -20, 18, 0, 3, 43};
        ReluBounds x = new ReluBounds();
        for (int place = 0; place < numbers.length; place++) {
            x.set(place, numbers[place]);
        }
        Check.due("patterns on all pairs", 21, x.patterns(ALL, ALL));
    }

    private static void patternsFirst() {
        Check.sentence("Promise 14: -1 if first is not good");
        for (int bad : Check.badIntervals()) {
            ReluBounds x = Check.network(0, 1);
            Check.due("patterns(" + bad + ", all)", -1, x.patterns(bad, ALL));
            Check.due("patterns(" + bad + ", 0)", -1, x.patterns(bad, 0));
            Check.due("patterns(" + bad + ", 1024)", -1, x.patterns(bad, 1024));
        }
    }

    private static void patternsSecond() {
        Check.sentence("Promise 14: -1 if second is not good");
        for (int bad : Check.badIntervals()) {
            ReluBounds x = Check.network(0, 1);
            Check.due("patterns(all, " + bad + ")", -1, x.patterns(ALL, bad));
            Check.due("patterns(1023, " + bad + ")", -1, x.patterns(1023, bad));
        }
    }
}
