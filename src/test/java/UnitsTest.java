/** Promises 12 and 14: fixed and patterns. */
public final class UnitsTest {
    private static final int ALL = Check.interval(-16, 15);

    public static void main(String[] args) {
        fixedInner();
        fixedOuter();
        onlyWholeInputsCount();
        patternsByHand();
        onePattern();
        Check.end();
    }

    private static void fixedInner() {
        ReluBounds x = Check.network(0, 1, 3, -1, 8, 1);
        Check.due("h0 on -16 .. 0", 1, x.fixed(0, Check.interval(-16, 0), ALL));
        Check.due("h0 on -16 .. 1", 0, x.fixed(0, Check.interval(-16, 1), ALL));
        Check.due("h0 on 0 .. 15", 0, x.fixed(0, Check.interval(0, 15), ALL));
        Check.due("h0 on 1 .. 15", 2, x.fixed(0, Check.interval(1, 15), ALL));
        Check.due("h0 on 0 .. 0", 1, x.fixed(0, Check.interval(0, 0), ALL));
        Check.due("h1 on 0 .. 15", 1, x.fixed(1, ALL, Check.interval(0, 15)));
        Check.due("h1 on -1 .. 15", 0, x.fixed(1, ALL, Check.interval(-1, 15)));
        Check.due("h1 on -16 .. -1", 2, x.fixed(1, ALL, Check.interval(-16, -1)));
        Check.due("h2", 2, x.fixed(2, ALL, ALL));
    }

    // g0 = |x0|, g1 = clip of (3 - |x0|).
    private static void fixedOuter() {
        ReluBounds x = Check.network(0, 1, 2, -1, 9, 1, 10, 1, 12, -1, 13, -1, 16, 3);
        Check.due("g0 on -16 .. -1", 2, x.fixed(3, Check.interval(-16, -1), ALL));
        Check.due("g0 on 0 .. 0", 1, x.fixed(3, Check.interval(0, 0), ALL));
        Check.due("g0 on -1 .. 1", 0, x.fixed(3, Check.interval(-1, 1), ALL));
        Check.due("g1 on -2 .. 2", 2, x.fixed(4, Check.interval(-2, 2), ALL));
        Check.due("g1 on -3 .. 2", 0, x.fixed(4, Check.interval(-3, 2), ALL));
        Check.due("g1 on 3 .. 15", 1, x.fixed(4, Check.interval(3, 15), ALL));
    }

    // g0 = |2 * x0 - 1| is 0 only between two whole inputs.
    private static void onlyWholeInputsCount() {
        ReluBounds x = Check.network(0, 2, 6, -1, 2, -2, 7, 1, 9, 1, 10, 1);
        Check.due("g0, 0 between whole inputs", 2, x.fixed(3, ALL, ALL));
        Check.due("patterns between whole inputs", 2, x.patterns(ALL, ALL));
    }

    // The marks are x0 > 0, x1 > 0, x0 + x1 < 0, x0 > 5, x0 + x1 < -20.
    private static void patternsByHand() {
        ReluBounds x = Check.network(0, 1, 3, 1, 4, -1, 5, -1);
        Check.due("patterns of three lines", 7, x.patterns(ALL, ALL));
        x.set(9, 1);
        x.set(15, -5);
        Check.due("patterns with x0 > 5", 10, x.patterns(ALL, ALL));
        x.set(14, 1);
        x.set(16, -20);
        Check.due("patterns with x0 + x1 < -20", 11, x.patterns(ALL, ALL));
        Check.due("patterns, both above 0", 2, x.patterns(Check.interval(1, 15), Check.interval(1, 15)));
        Check.due("patterns, x0 up to 5", 1, x.patterns(Check.interval(1, 5), Check.interval(1, 15)));
        Check.due("patterns, both below 0", 2, x.patterns(Check.interval(-16, -1), Check.interval(-16, -1)));
        Check.due("patterns of one row", 3, x.patterns(Check.interval(0, 0), Check.interval(-1, 1)));
    }

    private static void onePattern() {
        ReluBounds none = new ReluBounds();
        Check.due("patterns, no unit above 0", 1, none.patterns(ALL, ALL));
        ReluBounds every = Check.network(6, 1, 7, 1, 8, 1, 15, 1, 16, 1);
        Check.due("patterns, every unit above 0", 1, every.patterns(ALL, ALL));
        ReluBounds both = Check.network(0, 1, 2, 1, 4, 1, 9, 1, 12, 1);
        Check.due("patterns, every unit and none", 2, both.patterns(ALL, ALL));
        Check.due("patterns, one pair", 1, both.patterns(Check.interval(15, 15), Check.interval(-16, -16)));
    }
}
