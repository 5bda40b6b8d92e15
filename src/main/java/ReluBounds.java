/**
 * Small networks of clipped sums, and exact bounds of what they give on a box of inputs.
 *
 * A box holds at most 32 * 32 input pairs, so every bound is found by looking at each pair: that is
 * what makes the answers exact.
 */
public final class ReluBounds {
    private static final int PLACES = 20;
    private static final int FIRST_B = 6;
    private static final int FIRST_C = 9;
    private static final int FIRST_D = 15;
    private static final int FIRST_E = 17;
    private static final int PLACE_F = 19;

    private static final int INNER_UNITS = 3;
    private static final int UNITS = 5;
    private static final int PATTERNS = 32;

    private static final int MOST_FACTOR = 5;
    private static final int MOST_OFFSET = 50;

    private static final int LEAST_INPUT = -16;
    private static final int MOST_INPUT = 15;
    private static final int INPUTS = 32;
    private static final int MOST_INTERVAL = 1023;

    private static final int MOST_SEED = 100;
    private static final int MOST_BEND = 20;

    private static final int NO_NUMBER = -1000;
    private static final int NO_RESULT = -1000000;
    private static final int NO_PAIR = -2;

    private final int[] numbers = new int[PLACES];

    // A new array holds zeros, which is the network that a new object begins with.
    public ReluBounds() {
    }

    public int set(int place, int value) {
        if (!isPlace(place)) {
            return -1;
        }
        int bound = isOffset(place) ? MOST_OFFSET : MOST_FACTOR;
        if (value < -bound || value > bound) {
            return -2;
        }
        int before = numbers[place];
        numbers[place] = value;
        return before != value ? 1 : 0;
    }

    public int sow(int seed, int bend) {
        if (seed < 0 || seed > MOST_SEED) {
            return -1;
        }
        if (bend < 0 || bend > MOST_BEND) {
            return -2;
        }
        for (int place = 0; place < PLACES; place++) {
            numbers[place] = isOffset(place)
                    ? (seed * 7 + 5 * place + bend * place) % 41 - 20
                    : (seed + 3 * place + place * place * bend) % 11 - 5;
        }
        return 0;
    }

    public int get(int place) {
        return isPlace(place) ? numbers[place] : NO_NUMBER;
    }

    public int result(int x0, int x1) {
        if (!isInput(x0) || !isInput(x1)) {
            return NO_RESULT;
        }
        return resultAt(x0, x1);
    }

    public int unit(int unit, int x0, int x1) {
        if (!isUnit(unit)) {
            return -1;
        }
        if (!isInput(x0) || !isInput(x1)) {
            return -2;
        }
        return unitAt(unit, x0, x1);
    }

    public int most(int first, int second) {
        if (!isInterval(first) || !isInterval(second)) {
            return NO_RESULT;
        }
        return greatestOn(first, second);
    }

    public int least(int first, int second) {
        if (!isInterval(first) || !isInterval(second)) {
            return NO_RESULT;
        }
        return smallestOn(first, second);
    }

    public int mostAt(int first, int second) {
        if (!isInterval(first) || !isInterval(second)) {
            return -1;
        }
        int greatest = greatestOn(first, second);
        return firstAbove(first, second, greatest - 1);
    }

    public int safe(int first, int second, int limit) {
        if (!isInterval(first) || !isInterval(second)) {
            return -1;
        }
        return greatestOn(first, second) <= limit ? 1 : 0;
    }

    public int breach(int first, int second, int limit) {
        if (!isInterval(first) || !isInterval(second)) {
            return -1;
        }
        return firstAbove(first, second, limit);
    }

    public int fixed(int unit, int first, int second) {
        if (!isUnit(unit)) {
            return -1;
        }
        if (!isInterval(first) || !isInterval(second)) {
            return -2;
        }
        return sameOn(unit, first, second);
    }

    public int radius(int x0, int x1, int limit) {
        if (!isInput(x0) || !isInput(x1)) {
            return -1;
        }
        int nearest = distanceToAbove(x0, x1, limit);
        return nearest == 0 ? -2 : nearest - 1;
    }

    public int patterns(int first, int second) {
        if (!isInterval(first) || !isInterval(second)) {
            return -1;
        }
        int high0 = highOf(first);
        int low1 = lowOf(second);
        int high1 = highOf(second);
        int seen = 0;
        for (int x0 = lowOf(first); x0 <= high0; x0++) {
            for (int x1 = low1; x1 <= high1; x1++) {
                seen |= 1 << patternAt(x0, x1);
            }
        }
        return countOf(seen);
    }

    private static boolean isPlace(int place) {
        return place >= 0 && place < PLACES;
    }

    private static boolean isOffset(int place) {
        return (place >= FIRST_B && place < FIRST_C)
                || (place >= FIRST_D && place < FIRST_E)
                || place == PLACE_F;
    }

    private static boolean isUnit(int unit) {
        return unit >= 0 && unit < UNITS;
    }

    private static boolean isInput(int x) {
        return x >= LEAST_INPUT && x <= MOST_INPUT;
    }

    private static boolean isInterval(int interval) {
        return interval >= 0 && interval <= MOST_INTERVAL && lowOf(interval) <= highOf(interval);
    }

    private static int lowOf(int interval) {
        return interval / INPUTS + LEAST_INPUT;
    }

    private static int highOf(int interval) {
        return interval % INPUTS + LEAST_INPUT;
    }

    private static int pairOf(int x0, int x1) {
        return INPUTS * (x0 - LEAST_INPUT) + (x1 - LEAST_INPUT);
    }

    private static int clip(int t) {
        return t > 0 ? t : 0;
    }

    private static int distance(int x, int y) {
        return x > y ? x - y : y - x;
    }

    private int innerAt(int k, int x0, int x1) {
        int sum = numbers[2 * k] * x0 + numbers[2 * k + 1] * x1 + numbers[FIRST_B + k];
        return clip(sum);
    }

    private int outerAt(int k, int x0, int x1) {
        int sum = numbers[FIRST_D + k];
        for (int i = 0; i < INNER_UNITS; i++) {
            sum += numbers[FIRST_C + INNER_UNITS * k + i] * innerAt(i, x0, x1);
        }
        return clip(sum);
    }

    private int unitAt(int unit, int x0, int x1) {
        return unit < INNER_UNITS ? innerAt(unit, x0, x1) : outerAt(unit - INNER_UNITS, x0, x1);
    }

    private int resultAt(int x0, int x1) {
        return numbers[FIRST_E] * outerAt(0, x0, x1)
                + numbers[FIRST_E + 1] * outerAt(1, x0, x1)
                + numbers[PLACE_F];
    }

    private int patternAt(int x0, int x1) {
        int pattern = 0;
        for (int unit = 0; unit < UNITS; unit++) {
            if (unitAt(unit, x0, x1) > 0) {
                pattern |= 1 << unit;
            }
        }
        return pattern;
    }

    private int greatestOn(int first, int second) {
        int high0 = highOf(first);
        int low1 = lowOf(second);
        int high1 = highOf(second);
        int greatest = resultAt(high0, high1);
        for (int x0 = lowOf(first); x0 <= high0; x0++) {
            for (int x1 = low1; x1 <= high1; x1++) {
                int here = resultAt(x0, x1);
                if (here > greatest) {
                    greatest = here;
                }
            }
        }
        return greatest;
    }

    private int smallestOn(int first, int second) {
        int high0 = highOf(first);
        int low1 = lowOf(second);
        int high1 = highOf(second);
        int smallest = resultAt(high0, high1);
        for (int x0 = lowOf(first); x0 <= high0; x0++) {
            for (int x1 = low1; x1 <= high1; x1++) {
                int here = resultAt(x0, x1);
                if (here < smallest) {
                    smallest = here;
                }
            }
        }
        return smallest;
    }

    // x0 runs outside and x1 inside, both upwards: that is the order of the pairs' numbers.
    private int firstAbove(int first, int second, int limit) {
        int high0 = highOf(first);
        int low1 = lowOf(second);
        int high1 = highOf(second);
        for (int x0 = lowOf(first); x0 <= high0; x0++) {
            for (int x1 = low1; x1 <= high1; x1++) {
                if (resultAt(x0, x1) > limit) {
                    return pairOf(x0, x1);
                }
            }
        }
        return NO_PAIR;
    }

    private int sameOn(int unit, int first, int second) {
        int high0 = highOf(first);
        int low1 = lowOf(second);
        int high1 = highOf(second);
        boolean everZero = false;
        boolean everMore = false;
        for (int x0 = lowOf(first); x0 <= high0; x0++) {
            for (int x1 = low1; x1 <= high1; x1++) {
                if (unitAt(unit, x0, x1) > 0) {
                    everMore = true;
                } else {
                    everZero = true;
                }
            }
        }
        if (everZero && everMore) {
            return 0;
        }
        return everMore ? 2 : 1;
    }

    // Two good inputs are at most 31 apart, so 32 stands for "no pair is above the limit", and the
    // radius, one less than the distance, is then the 31 that the document asks for.
    private int distanceToAbove(int x0, int x1, int limit) {
        int nearest = INPUTS;
        for (int y0 = LEAST_INPUT; y0 <= MOST_INPUT; y0++) {
            for (int y1 = LEAST_INPUT; y1 <= MOST_INPUT; y1++) {
                int apart0 = distance(x0, y0);
                int apart1 = distance(x1, y1);
                int apart = apart0 > apart1 ? apart0 : apart1;
                if (apart < nearest && resultAt(y0, y1) > limit) {
                    nearest = apart;
                }
            }
        }
        return nearest;
    }

    // One bit for each of the 32 patterns: an int holds them all, the last one in its sign.
    private static int countOf(int seen) {
        int count = 0;
        for (int pattern = 0; pattern < PATTERNS; pattern++) {
            count += (seen >>> pattern) & 1;
        }
        return count;
    }
}
