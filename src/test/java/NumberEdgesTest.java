/** Promises 1 to 4: the sentences that name a boundary case, one test for each. */
public final class NumberEdgesTest {
    public static void main(String[] args) {
        newObject();
        setPlace();
        setFactor();
        setOffset();
        setSomethingElse();
        setSameAgain();
        sowFactorWraps();
        sowOffsetWraps();
        sowSetsAllNumbers();
        sowSeed();
        sowBend();
        sowAnswersZero();
        getEveryPlace();
        getPlace();
        Check.end();
    }

    private static boolean isOffset(int place) {
        return place == 6 || place == 7 || place == 8 || place == 15 || place == 16 || place == 19;
    }

    private static void newObject() {
        Check.sentence("Promise 1: All factors and offsets are 0");
        ReluBounds x = new ReluBounds();
        Check.sameNumbers("on a new object", new int[Check.PLACES], x);
        for (int place = 0; place < Check.PLACES; place++) {
            Check.due("set(" + place + ", 0) on a new object", 0, x.set(place, 0));
        }
        ReluBounds used = new ReluBounds();
        used.sow(3, 4);
        ReluBounds later = new ReluBounds();
        Check.sameNumbers("on an object made after another was sown", new int[Check.PLACES], later);
        ReluBounds early = new ReluBounds();
        used.sow(5, 6);
        Check.sameNumbers("on an object made before another was sown", new int[Check.PLACES], early);
    }

    private static void setPlace() {
        Check.sentence("Promise 2: -1 if place is not in 0 .. 19");
        for (int place : Check.badPlaces()) {
            ReluBounds x = new ReluBounds();
            Check.due("set(" + place + ", 0)", -1, x.set(place, 0));
            Check.due("set(" + place + ", 5)", -1, x.set(place, 5));
        }
        for (int place = 0; place < Check.PLACES; place++) {
            Check.due("set(" + place + ", 5)", 1, new ReluBounds().set(place, 5));
        }
    }

    private static void setFactor() {
        Check.sentence("Promise 2: -2 if value is not in -5 .. 5 (for a factor)");
        for (int place = 0; place < Check.PLACES; place++) {
            if (!isOffset(place)) {
                setBounds(place, 5);
            }
        }
    }

    private static void setOffset() {
        Check.sentence("Promise 2: -2 if value is not in -50 .. 50 (for an offset)");
        for (int place = 0; place < Check.PLACES; place++) {
            if (isOffset(place)) {
                setBounds(place, 50);
            }
        }
    }

    private static void setBounds(int place, int bound) {
        for (int value : Check.outside(-bound, bound)) {
            Check.due("set(" + place + ", " + value + ")", -2, new ReluBounds().set(place, value));
        }
        ReluBounds x = new ReluBounds();
        Check.due("set(" + place + ") to the greatest", 1, x.set(place, bound));
        Check.due("get(" + place + ")", bound, x.get(place));
        Check.due("set(" + place + ") to the least", 1, x.set(place, -bound));
        Check.due("get(" + place + ")", -bound, x.get(place));
    }

    private static void setSomethingElse() {
        Check.sentence("Promise 2: otherwise answers 1 if it was something else");
        for (int place = 0; place < Check.PLACES; place++) {
            ReluBounds x = new ReluBounds();
            int bound = isOffset(place) ? 50 : 5;
            for (int value : new int[] {1, 0, -1, 1, -1, bound, -bound, bound - 1, 0}) {
                Check.due("set(" + place + ", " + value + ")", 1, x.set(place, value));
            }
        }
    }

    private static void setSameAgain() {
        Check.sentence("Promise 2: 0 if not [something else]");
        for (int place = 0; place < Check.PLACES; place++) {
            int bound = isOffset(place) ? 50 : 5;
            for (int value : new int[] {1, -1, bound, -bound, 0}) {
                ReluBounds x = new ReluBounds();
                x.set(place, value);
                Check.due("set(" + place + ", " + value + ") again", 0, x.set(place, value));
                Check.due("set(" + place + ", 51)", -2, x.set(place, 51));
                Check.due("set(" + place + ", " + value + ") after a refusal", 0, x.set(place, value));
                Check.due("get(" + place + ")", value, x.get(place));
            }
            ReluBounds sown = new ReluBounds();
            sown.sow(100, 20);
            Check.due("set(" + place + ") to what was sown", 0, sown.set(place, sown.get(place)));
        }
    }

    // At place 0 the factor is (seed modulo 11) less 5.
    private static void sowFactorWraps() {
        Check.sentence("Promise 3: the factor becomes ((seed + 3 * p + p * p * bend) modulo 11) less 5");
        int[][] rows = {{0, -5}, {1, -4}, {5, 0}, {10, 5}, {11, -5}, {12, -4}, {21, 5}, {22, -5},
            {98, 5}, {99, -5}, {100, -4}};
        for (int[] row : rows) {
            sown(row[0], 0, 0, row[1]);
            sown(row[0], 20, 0, row[1]);
        }
        // 0 + 54 + 324 * 1 = 378 = 34 * 11 + 4; 100 + 54 + 6480 = 6634 = 603 * 11 + 1.
        sown(0, 1, 18, -1);
        sown(100, 20, 18, -4);
        // 100 + 3 * 17 + 289 * 20 = 5931 = 539 * 11 + 2; 1 + 3 * 1 + 1 * 7 = 11.
        sown(100, 20, 17, -3);
        sown(1, 7, 1, -5);
        sown(0, 7, 1, 5);
    }

    // At place 6 the offset is ((7 * seed + 30 + 6 * bend) modulo 41) less 20.
    private static void sowOffsetWraps() {
        Check.sentence("Promise 3: the offset at place p ((seed * 7 + 5 * p + bend * p) modulo 41) less 20");
        // 7 * 19 + 30 = 163 = 3 * 41 + 40; 7 * 25 + 30 = 205 = 5 * 41; 7 * 31 + 30 = 247 = 6 * 41 + 1.
        sown(19, 0, 6, 20);
        sown(25, 0, 6, -20);
        sown(31, 0, 6, -19);
        // 30 + 6 * 2 = 42 = 41 + 1; 7 * 5 + 30 + 6 * 3 = 83 = 2 * 41 + 1.
        sown(0, 2, 6, -19);
        sown(5, 3, 6, -19);
        // 8 * 5 = 40; 19 * 5 + 19 * 20 = 475 = 11 * 41 + 24; 700 + 475 = 1175 = 28 * 41 + 27.
        sown(0, 0, 8, 20);
        sown(0, 20, 19, 4);
        sown(100, 20, 19, 7);
        // 7 * 100 + 75 + 15 * 20 = 1075 = 26 * 41 + 9; 700 + 80 + 320 = 1100 = 26 * 41 + 34.
        sown(100, 20, 15, -11);
        sown(100, 20, 16, 14);
    }

    private static void sown(int seed, int bend, int place, int want) {
        ReluBounds x = new ReluBounds();
        x.sow(seed, bend);
        Check.due("get(" + place + ") after sow(" + seed + ", " + bend + ")", want, x.get(place));
    }

    private static void sowSetsAllNumbers() {
        Check.sentence("Promise 3: Sets all numbers");
        ReluBounds fresh = new ReluBounds();
        fresh.sow(37, 11);
        int[] want = Check.numbersOf(fresh);
        ReluBounds x = new ReluBounds();
        for (int place = 0; place < Check.PLACES; place++) {
            int bound = isOffset(place) ? 50 : 5;
            x.set(place, want[place] == bound ? -bound : bound);
        }
        Check.due("sow(37, 11) over other numbers", 0, x.sow(37, 11));
        Check.sameNumbers("after sow over other numbers", want, x);
        for (int place = 0; place < Check.PLACES; place++) {
            x.set(place, 0);
        }
        x.sow(37, 11);
        Check.sameNumbers("after sow over zeros", want, x);
    }

    private static void sowSeed() {
        Check.sentence("Promise 3: -1 if seed is not in 0 .. 100");
        for (int seed : Check.outside(0, 100)) {
            ReluBounds x = new ReluBounds();
            Check.due("sow(" + seed + ", 0)", -1, x.sow(seed, 0));
            Check.due("sow(" + seed + ", 20)", -1, x.sow(seed, 20));
        }
        Check.due("sow(0, 20)", 0, new ReluBounds().sow(0, 20));
        Check.due("sow(100, 0)", 0, new ReluBounds().sow(100, 0));
    }

    private static void sowBend() {
        Check.sentence("Promise 3: -2 if bend is not in 0 .. 20");
        for (int bend : Check.outside(0, 20)) {
            ReluBounds x = new ReluBounds();
            Check.due("sow(0, " + bend + ")", -2, x.sow(0, bend));
            Check.due("sow(100, " + bend + ")", -2, x.sow(100, bend));
        }
        Check.due("sow(100, 20)", 0, new ReluBounds().sow(100, 20));
        Check.due("sow(0, 0)", 0, new ReluBounds().sow(0, 0));
    }

    private static void sowAnswersZero() {
        Check.sentence("Promise 3: otherwise 0");
        for (int seed = 0; seed <= 100; seed++) {
            for (int bend = 0; bend <= 20; bend++) {
                ReluBounds x = new ReluBounds();
                Check.due("sow(" + seed + ", " + bend + ")", 0, x.sow(seed, bend));
                Check.due("sow(" + seed + ", " + bend + ") again", 0, x.sow(seed, bend));
            }
        }
    }

    private static void getEveryPlace() {
        Check.sentence("Promise 4: The number at a place");
        for (int place = 0; place < Check.PLACES; place++) {
            int bound = isOffset(place) ? 50 : 5;
            for (int value = -bound; value <= bound; value++) {
                ReluBounds x = new ReluBounds();
                x.set(place, value);
                for (int other = 0; other < Check.PLACES; other++) {
                    Check.due("get(" + other + ") after set(" + place + ", " + value + ")",
                            other == place ? value : 0, x.get(other));
                }
            }
        }
    }

    private static void getPlace() {
        Check.sentence("Promise 4: -1000 if place is not in 0 .. 19");
        for (int place : Check.badPlaces()) {
            ReluBounds x = Check.network(0, 1, 19, 2);
            Check.due("get(" + place + ")", -1000, x.get(place));
        }
        ReluBounds x = Check.network(0, 1, 19, 2);
        Check.due("get(0)", 1, x.get(0));
        Check.due("get(19)", 2, x.get(19));
    }
}
