/** Promises 5 and 6: the sentences that name a boundary case, one test for each. */
public final class ValueEdgesTest {
    public static void main(String[] args) {
        resultAtTheCorners();
        resultOfX0();
        resultOfX1();
        unitNumbers();
        unitAtTheCorners();
        unitUnit();
        unitX0();
        unitX1();
        Check.end();
    }

    // h0 = x0 + 2 * x1 + 48 is 0 or more for every pair, g0 = h0 and the result is h0 - 48.
    private static ReluBounds weighed() {
        return Check.network(0, 1, 1, 2, 6, 48, 9, 1, 17, 1, 19, -48);
    }

    private static void resultAtTheCorners() {
        Check.sentence("Promise 5: The result for two inputs");
        for (int x0 = -16; x0 <= 15; x0++) {
            for (int x1 = -16; x1 <= 15; x1++) {
                Check.due("result(" + x0 + ", " + x1 + ")", x0 + 2 * x1, weighed().result(x0, x1));
            }
        }
    }

    private static void resultOfX0() {
        Check.sentence("Promise 5: -1000000 if x0 is not good");
        for (int bad : Check.badInputs()) {
            ReluBounds x = weighed();
            for (int other : new int[] {-16, 0, 15, 16, -17, bad}) {
                Check.due("result(" + bad + ", " + other + ")", -1000000, x.result(bad, other));
            }
        }
    }

    private static void resultOfX1() {
        Check.sentence("Promise 5: -1000000 if x1 is not good");
        for (int bad : Check.badInputs()) {
            ReluBounds x = weighed();
            for (int other : new int[] {-16, 0, 15}) {
                Check.due("result(" + other + ", " + bad + ")", -1000000, x.result(other, bad));
            }
        }
    }

    private static void unitNumbers() {
        Check.sentence("Promise 6: an inner unit (unit 0 .. 2) or outer unit (unit 3, 4)");
        ReluBounds x = Check.network(6, 1, 7, 2, 8, 3, 15, 4, 16, 5);
        for (int unit = 0; unit < 5; unit++) {
            Check.due("unit(" + unit + ", 0, 0)", unit + 1, x.unit(unit, 0, 0));
        }
    }

    private static void unitAtTheCorners() {
        Check.sentence("Promise 6: what a unit gives for two inputs");
        for (int x0 = -16; x0 <= 15; x0++) {
            for (int x1 = -16; x1 <= 15; x1++) {
                ReluBounds x = weighed();
                String pair = "(" + x0 + ", " + x1 + ")";
                Check.due("unit 0" + pair, x0 + 2 * x1 + 48, x.unit(0, x0, x1));
                Check.due("unit 1" + pair, 0, x.unit(1, x0, x1));
                Check.due("unit 3" + pair, x0 + 2 * x1 + 48, x.unit(3, x0, x1));
                Check.due("unit 4" + pair, 0, x.unit(4, x0, x1));
            }
        }
    }

    private static void unitUnit() {
        Check.sentence("Promise 6: -1 if unit is not in 0 .. 4");
        for (int bad : Check.badUnits()) {
            ReluBounds x = Check.network(6, 1, 16, 5);
            Check.due("unit(" + bad + ", 0, 0)", -1, x.unit(bad, 0, 0));
            Check.due("unit(" + bad + ", -16, 15)", -1, x.unit(bad, -16, 15));
        }
        ReluBounds x = Check.network(6, 1, 16, 5);
        Check.due("unit(0, -16, 15)", 1, x.unit(0, -16, 15));
        Check.due("unit(4, 15, -16)", 5, x.unit(4, 15, -16));
    }

    private static void unitX0() {
        Check.sentence("Promise 6: -2 if x0 is not good");
        for (int bad : Check.badInputs()) {
            ReluBounds x = weighed();
            for (int unit = 0; unit < 5; unit++) {
                Check.due("unit(" + unit + ", " + bad + ", 0)", -2, x.unit(unit, bad, 0));
                Check.due("unit(" + unit + ", " + bad + ", 16)", -2, x.unit(unit, bad, 16));
            }
        }
    }

    private static void unitX1() {
        Check.sentence("Promise 6: -2 if x1 is not good");
        for (int bad : Check.badInputs()) {
            ReluBounds x = weighed();
            for (int unit = 0; unit < 5; unit++) {
                Check.due("unit(" + unit + ", 0, " + bad + ")", -2, x.unit(unit, 0, bad));
                Check.due("unit(" + unit + ", 15, " + bad + ")", -2, x.unit(unit, 15, bad));
            }
        }
    }
}
