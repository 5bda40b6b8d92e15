/** Promise 13: the sentences that name a boundary case, one test for each. */
public final class RadiusEdgesTest {
    public static void main(String[] args) {
        greatestRadius();
        atMostInEachInput();
        onlyGoodPairs();
        atMostLimit();
        itselfGreater();
        noGreatest();
        farthestBreach();
        anyInt();
        badX0();
        badX1();
        Check.end();
    }

    private static int apart(int x0, int x1, int p0, int p1) {
        return Math.max(Math.abs(x0 - p0), Math.abs(x1 - p1));
    }

    private static void greatestRadius() {
        Check.sentence("Promise 13: The greatest r such that all input pairs that differ by at most r");
        int[] edges = {-16, -15, -1, 0, 14, 15};
        for (int p0 : edges) {
            for (int p1 : edges) {
                spikeFromEverywhere(p0, p1);
            }
        }
    }

    private static void spikeFromEverywhere(int p0, int p1) {
        for (int x0 = -16; x0 <= 15; x0++) {
            ReluBounds x = Check.spike(p0, p1, 1);
            for (int x1 = -16; x1 <= 15; x1++) {
                int apart = apart(x0, x1, p0, p1);
                Check.due("radius(" + x0 + ", " + x1 + ", 0), spike at " + p0 + ", " + p1,
                        apart == 0 ? -2 : apart - 1, x.radius(x0, x1, 0));
            }
        }
    }

    private static void atMostInEachInput() {
        Check.sentence("Promise 13: differ from (x0, x1) by at most r in each input");
        for (int r = 1; r <= 15; r++) {
            for (int along = -r; along <= r; along++) {
                Check.due("radius, spike above", r - 1, Check.spike(r, along, 1).radius(0, 0, 0));
                Check.due("radius, spike below", r - 1, Check.spike(-r, along, 1).radius(0, 0, 0));
                Check.due("radius, spike right", r - 1, Check.spike(along, r, 1).radius(0, 0, 0));
                Check.due("radius, spike left", r - 1, Check.spike(along, -r, 1).radius(0, 0, 0));
            }
        }
    }

    // The four sums grow towards one border each; what they'd be behind it doesn't count.
    private static void onlyGoodPairs() {
        Check.sentence("Promise 13: and are good");
        ReluBounds up = Check.network(0, 1, 6, 16, 9, 1, 17, 1);
        ReluBounds down = Check.network(0, -1, 6, 16, 9, 1, 17, 1);
        ReluBounds right = Check.network(1, 1, 6, 16, 9, 1, 17, 1);
        ReluBounds left = Check.network(1, -1, 6, 16, 9, 1, 17, 1);
        Check.due("radius at x0 = 15", 31, up.radius(15, 0, 31));
        Check.due("radius at x0 = 14", 0, up.radius(14, 0, 30));
        Check.due("radius at x0 = -16", 31, down.radius(-16, 0, 32));
        Check.due("radius at x0 = -15", 0, down.radius(-15, 0, 31));
        Check.due("radius at x1 = 15", 31, right.radius(0, 15, 31));
        Check.due("radius at x1 = 14", 0, right.radius(0, 14, 30));
        Check.due("radius at x1 = -16", 31, left.radius(0, -16, 32));
        Check.due("radius at x1 = -15", 0, left.radius(0, -15, 31));
    }

    // The result is x0 + 16.
    private static void atMostLimit() {
        Check.sentence("Promise 13: have results of at most limit");
        ReluBounds x = Check.network(0, 1, 6, 16, 9, 1, 17, 1);
        for (int limit = 16; limit < 31; limit++) {
            Check.due("radius(0, 0, " + limit + ")", limit - 16, x.radius(0, 0, limit));
        }
        Check.due("radius(0, 0, 31)", 31, x.radius(0, 0, 31));
    }

    private static void itselfGreater() {
        Check.sentence("Promise 13: -2 if the result for (x0, x1) itself is greater");
        for (int p0 = -16; p0 <= 15; p0++) {
            for (int p1 = -16; p1 <= 15; p1++) {
                ReluBounds x = Check.spike(p0, p1, 5);
                String at = " at the spike " + p0 + ", " + p1;
                Check.due("radius, limit 4," + at, -2, x.radius(p0, p1, 4));
                Check.due("radius, limit 5," + at, 31, x.radius(p0, p1, 5));
                ReluBounds dent = Check.dent(p0, p1);
                Check.due("radius in a dent," + at, 0, dent.radius(p0, p1, 0));
            }
        }
        Check.due("radius, 0 is greater than -1", -2, new ReluBounds().radius(0, 0, -1));
    }

    private static void noGreatest() {
        Check.sentence("Promise 13: 31 if there is no greatest");
        for (int x0 = -16; x0 <= 15; x0++) {
            ReluBounds x = Check.spike(x0, -1 - x0, 5);
            for (int x1 = -16; x1 <= 15; x1++) {
                Check.due("radius(" + x0 + ", " + x1 + ", 5)", 31, x.radius(x0, x1, 5));
            }
        }
        Check.due("radius on a new object", 31, new ReluBounds().radius(-16, 15, 0));
    }

    private static void farthestBreach() {
        Check.sentence("Promise 13: 31 if there is no greatest: with a breach at the distance 31 the greatest is 30");
        int[] ends = {-16, 15};
        for (int x0 : ends) {
            for (int x1 : ends) {
                for (int along = -16; along <= 15; along++) {
                    Check.due("radius, farthest x0", 30, Check.spike(-1 - x0, along, 1).radius(x0, x1, 0));
                    Check.due("radius, farthest x1", 30, Check.spike(along, -1 - x1, 1).radius(x0, x1, 0));
                }
            }
        }
    }

    private static void anyInt() {
        Check.sentence("Promise 13: limit is any int");
        for (int result : new int[] {-50, 0, 50}) {
            ReluBounds x = Check.network(19, result);
            for (int limit : new int[] {Integer.MIN_VALUE, Integer.MIN_VALUE + 1, -51, 51,
                Integer.MAX_VALUE - 1, Integer.MAX_VALUE}) {
                Check.due("radius, all " + result + ", limit " + limit, result > limit ? -2 : 31,
                        x.radius(-16, 15, limit));
            }
        }
    }

    private static void badX0() {
        Check.sentence("Promise 13: -1 if x0 is not good");
        for (int bad : Check.badInputs()) {
            ReluBounds x = Check.network(19, 9);
            for (int limit : new int[] {8, 9, Integer.MIN_VALUE, Integer.MAX_VALUE}) {
                Check.due("radius(" + bad + ", 0, " + limit + ")", -1, x.radius(bad, 0, limit));
                Check.due("radius(" + bad + ", 16, " + limit + ")", -1, x.radius(bad, 16, limit));
            }
        }
    }

    private static void badX1() {
        Check.sentence("Promise 13: -1 if x1 is not good");
        for (int bad : Check.badInputs()) {
            ReluBounds x = Check.network(19, 9);
            for (int limit : new int[] {8, 9, Integer.MIN_VALUE, Integer.MAX_VALUE}) {
                Check.due("radius(0, " + bad + ", " + limit + ")", -1, x.radius(0, bad, limit));
                Check.due("radius(15, " + bad + ", " + limit + ")", -1, x.radius(15, bad, limit));
            }
        }
    }
}
