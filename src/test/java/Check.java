/** What the tests share: counting wrong answers, and writing intervals and pairs as numbers. */
final class Check {
    static final int PLACES = 20;

    private static int wrong = 0;

    private Check() {
    }

    static void due(String call, long want, long got) {
        if (got != want) {
            wrong++;
            System.out.println(call + " answered " + got + ", due is " + want);
        }
    }

    static void end() {
        System.out.println(wrong == 0 ? "all answers are as due" : wrong + " answers are not as due");
        if (wrong != 0) {
            System.exit(1);
        }
    }

    static int interval(int low, int high) {
        return 32 * (low + 16) + (high + 16);
    }

    static int pair(int x0, int x1) {
        return 32 * (x0 + 16) + (x1 + 16);
    }

    /** A network made from rows of place, value. */
    static ReluBounds network(int... placesAndValues) {
        ReluBounds x = new ReluBounds();
        for (int i = 0; i < placesAndValues.length; i += 2) {
            int place = placesAndValues[i];
            int value = placesAndValues[i + 1];
            due("set(" + place + ", " + value + ") on a new object", value == 0 ? 0 : 1,
                    x.set(place, value));
        }
        return x;
    }

    static int[] numbersOf(ReluBounds x) {
        int[] numbers = new int[PLACES];
        for (int place = 0; place < PLACES; place++) {
            numbers[place] = x.get(place);
        }
        return numbers;
    }

    static void sameNumbers(String when, int[] want, ReluBounds x) {
        for (int place = 0; place < PLACES; place++) {
            due("get(" + place + ") " + when, want[place], x.get(place));
        }
    }

    /** Numbers that are no good interval: outside 0 .. 1023, or with low > high. */
    static int[] badIntervals() {
        return new int[] {-1, -32, 1024, 1055, 1056, 32, 64, 1022, 992, interval(1, 0),
            interval(15, 14), interval(-15, -16), Integer.MIN_VALUE, Integer.MAX_VALUE};
    }

    static int[] badInputs() {
        return new int[] {-17, 16, -1000, 1000, Integer.MIN_VALUE, Integer.MAX_VALUE};
    }

    static int[] badUnits() {
        return new int[] {-1, 5, 6, Integer.MIN_VALUE, Integer.MAX_VALUE};
    }
}
