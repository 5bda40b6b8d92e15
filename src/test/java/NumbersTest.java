/** Promises 1 to 4: a new object, set, sow, get. */
public final class NumbersTest {
    private static final int[] OFFSETS = {6, 7, 8, 15, 16, 19};

    public static void main(String[] args) {
        newObject();
        setAtEveryPlace();
        setTouchesOnePlace();
        sowByHand();
        sowByFormula();
        objectsAreApart();
        Check.end();
    }

    private static int bound(int place) {
        for (int offset : OFFSETS) {
            if (offset == place) {
                return 50;
            }
        }
        return 5;
    }

    private static void newObject() {
        ReluBounds x = new ReluBounds();
        Check.sameNumbers("on a new object", new int[Check.PLACES], x);
        Check.due("result(-16, 15) on a new object", 0, x.result(-16, 15));
        for (int unit = 0; unit < 5; unit++) {
            Check.due("unit(" + unit + ", 15, -16) on a new object", 0, x.unit(unit, 15, -16));
        }
    }

    private static void setAtEveryPlace() {
        for (int place = 0; place < Check.PLACES; place++) {
            ReluBounds x = new ReluBounds();
            int b = bound(place);
            int held = 0;
            int[] values = {0, 1, 1, 0, b, b, b + 1, -b, -b, -b - 1, b, -1, Integer.MIN_VALUE,
                Integer.MAX_VALUE, -1, 0};
            for (int value : values) {
                boolean good = value >= -b && value <= b;
                int want = !good ? -2 : value == held ? 0 : 1;
                Check.due("set(" + place + ", " + value + ")", want, x.set(place, value));
                held = good ? value : held;
                Check.due("get(" + place + ") after set to " + value, held, x.get(place));
            }
        }
    }

    private static void setTouchesOnePlace() {
        for (int place = 0; place < Check.PLACES; place++) {
            ReluBounds x = new ReluBounds();
            int[] want = new int[Check.PLACES];
            want[place] = -4;
            Check.due("set(" + place + ", -4)", 1, x.set(place, -4));
            Check.sameNumbers("after set(" + place + ", -4)", want, x);
        }
    }

    private static void sowByHand() {
        ReluBounds x = new ReluBounds();
        Check.due("sow(0, 0)", 0, x.sow(0, 0));
        // Factors 3p mod 11 less 5, offsets 5p mod 41 less 20.
        int[] plain = {-5, -2, 1, 4, -4, -1, 10, 15, 20, 0, 3, -5, -2, 1, 4, 14, 19, 2, 5, -7};
        Check.sameNumbers("after sow(0, 0)", plain, x);
        Check.due("sow(0, 0) again", 0, x.sow(0, 0));
        Check.sameNumbers("after sow(0, 0) twice", plain, x);
        Check.due("sow(100, 20)", 0, x.sow(100, 20));
        Check.due("get(0) after sow(100, 20)", 100 % 11 - 5, x.get(0));
        // 100 + 54 + 324 * 20 = 6634 = 603 * 11 + 1; 700 + 95 + 380 = 1175 = 28 * 41 + 27.
        Check.due("get(18) after sow(100, 20)", -4, x.get(18));
        Check.due("get(19) after sow(100, 20)", 7, x.get(19));
    }

    private static void sowByFormula() {
        for (int seed = 0; seed <= 100; seed++) {
            for (int bend = 0; bend <= 20; bend++) {
                ReluBounds x = new ReluBounds();
                int[] want = new int[Check.PLACES];
                for (int p = 0; p < Check.PLACES; p++) {
                    want[p] = bound(p) == 5
                            ? Math.floorMod(seed + 3 * p + p * p * bend, 11) - 5
                            : Math.floorMod(seed * 7 + 5 * p + bend * p, 41) - 20;
                }
                Check.due("sow(" + seed + ", " + bend + ")", 0, x.sow(seed, bend));
                Check.sameNumbers("after sow(" + seed + ", " + bend + ")", want, x);
            }
        }
    }

    private static void objectsAreApart() {
        ReluBounds x = new ReluBounds();
        ReluBounds y = new ReluBounds();
        x.sow(3, 4);
        Check.sameNumbers("on another object", new int[Check.PLACES], y);
    }
}
