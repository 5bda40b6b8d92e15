/** Promises 5 and 6: result and unit, on networks worked out by hand. */
public final class ValuesTest {
    public static void main(String[] args) {
        everyNumberCounts();
        clipsAtZero();
        greatestSize();
        Check.end();
    }

    // h0 = 1*x0 + 2*x1 + 30, h1 = 3*x0 - 1*x1 + 40, h2 = -2*x0 + 4*x1 + 50,
    // g0 = 1*h0 + 2*h1 + 3*h2 + 5, g1 = 4*h0 - 1*h1 + 5*h2 - 6, result = 2*g0 - 3*g1 + 7.
    private static void everyNumberCounts() {
        ReluBounds x = Check.network(0, 1, 1, 2, 2, 3, 3, -1, 4, -2, 5, 4, 6, 30, 7, 40, 8, 50,
                9, 1, 10, 2, 11, 3, 12, 4, 13, -1, 14, 5, 15, 5, 16, -6, 17, 2, 18, -3, 19, 7);
        values(x, 0, 0, new int[] {30, 40, 50, 265, 324, -435});
        values(x, 1, 0, new int[] {31, 43, 48, 266, 315, -406});
        values(x, 0, 1, new int[] {32, 39, 54, 277, 353, -498});
        values(x, -2, 3, new int[] {34, 31, 66, 299, 429, -682});
        // h1 = 3 * -16 - 15 + 40 < 0 is clipped: h0 = 44, h2 = 142.
        values(x, -16, 15, new int[] {44, 0, 142, 475, 880, -1683});
        // h2 = -30 - 64 + 50 < 0 is clipped: h0 = 13, h1 = 101; g1 = 52 - 101 - 6 < 0 is clipped.
        values(x, 15, -16, new int[] {13, 101, 0, 220, 0, 447});
    }

    private static void clipsAtZero() {
        ReluBounds x = Check.network(0, 1, 9, 1, 15, -1, 17, -5, 19, 1);
        values(x, -1, 0, new int[] {0, 0, 0, 0, 0, 1});
        values(x, 0, 0, new int[] {0, 0, 0, 0, 0, 1});
        values(x, 1, 0, new int[] {1, 0, 0, 0, 0, 1});
        values(x, 2, 0, new int[] {2, 0, 0, 1, 0, -4});
    }

    private static void greatestSize() {
        ReluBounds x = new ReluBounds();
        for (int place = 0; place < Check.PLACES; place++) {
            x.set(place, (place >= 6 && place <= 8) || place == 15 || place == 16 || place == 19 ? 50 : 5);
        }
        // h = 5 * 15 + 5 * 15 + 50 = 200, g = 15 * 200 + 50 = 3050, result = 10 * 3050 + 50.
        values(x, 15, 15, new int[] {200, 200, 200, 3050, 3050, 30550});
        values(x, -16, -16, new int[] {0, 0, 0, 50, 50, 550});
    }

    private static void values(ReluBounds x, int x0, int x1, int[] want) {
        for (int unit = 0; unit < 5; unit++) {
            Check.due("unit(" + unit + ", " + x0 + ", " + x1 + ")", want[unit], x.unit(unit, x0, x1));
        }
        Check.due("result(" + x0 + ", " + x1 + ")", want[5], x.result(x0, x1));
    }
}
