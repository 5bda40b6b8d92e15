import java.util.Arrays;
import java.util.stream.IntStream;

/** What the tests share: counting wrong answers, and writing intervals and pairs as numbers. */
final class Check {
    static final int PLACES = 20;

    private static int wrong = 0;
    private static String sentence = "";
    private static int answersOfSentence = 0;

    private Check() {
    }

    /** Begins the test of one sentence of the document: what is wrong is told under its words. */
    static void sentence(String words) {
        endSentence();
        sentence = words;
    }

    // A sentence without an answer to look at would pass whatever the class does.
    private static void endSentence() {
        if (!sentence.isEmpty() && answersOfSentence == 0) {
            wrong++;
            System.out.println("[" + sentence + "] has no test");
        }
        answersOfSentence = 0;
    }

    static void due(String call, long want, long got) {
        answersOfSentence++;
        if (got != want) {
            wrong++;
            String under = sentence.isEmpty() ? "" : "[" + sentence + "] ";
            System.out.println(under + call + " answered " + got + ", due is " + want);
        }
    }

    static void end() {
        endSentence();
        System.out.println(wrong == 0 ? "all answers are as due" : wrong + " answers are not as due");
        if (wrong != 0) {
            System.exit(1);
        }
    }

    static int interval(int low, int high) {
        return 32 * (low + 16) + (high + 16);
    }

    static int pair(int x0, int x1) {
        return 32 * (x0 + 16) + (x1 + 16);
    }

    /** A network made from rows of place, value. */
    static ReluBounds network(int... placesAndValues) {
        ReluBounds x = new ReluBounds();
        for (int i = 0; i < placesAndValues.length; i += 2) {
            int place = placesAndValues[i];
            int value = placesAndValues[i + 1];
            due("set(" + place + ", " + value + ") on a new object", value == 0 ? 0 : 1,
                    x.set(place, value));
        }
        return x;
    }

    static int[] numbersOf(ReluBounds x) {
        int[] numbers = new int[PLACES];
        for (int place = 0; place < PLACES; place++) {
            numbers[place] = x.get(place);
        }
        return numbers;
    }

    static void sameNumbers(String when, int[] want, ReluBounds x) {
        for (int place = 0; place < PLACES; place++) {
            due("get(" + place + ") " + when, want[place], x.get(place));
        }
    }

    /** A network whose result is height for the one pair p0, p1, and 0 for every other pair. */
    static ReluBounds spike(int p0, int p1, int height) {
        return network(spikeNumbers(p0, p1, height));
    }

    /** A network whose result is 1 for every pair but p0, p1, where it is 0. */
    static ReluBounds dent(int p0, int p1) {
        ReluBounds x = spike(p0, p1, -1);
        due("set(19, 1) for a dent", 1, x.set(19, 1));
        return x;
    }

    // h0 + h1 + h2 is 0 only if x0 <= p0, x1 <= p1 and x0 + x1 >= p0 + p1: at p0, p1 alone.
    private static int[] spikeNumbers(int p0, int p1, int height) {
        return new int[] {0, 1, 3, 1, 4, -1, 5, -1, 6, -p0, 7, -p1, 8, p0 + p1,
            9, -1, 10, -1, 11, -1, 15, 1, 17, height};
    }

    /** The whole numbers around low .. high, some far outside among them, that are not in it. */
    static int[] outside(int low, int high) {
        int[] near = new int[200];
        for (int i = 0; i < 100; i++) {
            near[i] = low - 1 - i;
            near[100 + i] = high + 1 + i;
        }
        // What a mask or a cast to fewer bits would take for a number of the range.
        int[] far = {low + 256, low - 256, high + 1024, high - 1024, low + 2048, low + 65536,
            low - 65536, high + (1 << 24), low + Integer.MIN_VALUE, high + Integer.MIN_VALUE,
            Integer.MIN_VALUE, Integer.MIN_VALUE + 31, Integer.MAX_VALUE, Integer.MAX_VALUE - 31};
        return IntStream.concat(Arrays.stream(near), Arrays.stream(far))
                .filter(number -> number < low || number > high).toArray();
    }

    /** The numbers that are no good interval: those outside 0 .. 1023, and those with low > high. */
    static int[] badIntervals() {
        IntStream turned = IntStream.range(0, 1024)
                .filter(number -> number / 32 > number % 32);
        IntStream outside = Arrays.stream(outside(0, 1023));
        return IntStream.concat(outside, turned).toArray();
    }

    /** Every good interval. */
    static int[] goodIntervals() {
        return IntStream.range(0, 1024)
                .filter(number -> number / 32 <= number % 32).toArray();
    }

    static int[] badInputs() {
        return outside(-16, 15);
    }

    static int[] badUnits() {
        return outside(0, 4);
    }

    static int[] badPlaces() {
        return outside(0, 19);
    }
}
