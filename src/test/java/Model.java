import java.util.ArrayList;
import java.util.HashSet;
import java.util.List;
import java.util.Set;

/** The document said a second time, as literally as Java allows, to compare the class with. */
final class Model {
    private final int[][] a = new int[3][2];
    private final int[] b = new int[3];
    private final int[][] c = new int[2][3];
    private final int[] d = new int[2];
    private final int[] e = new int[2];
    private int f = 0;

    void put(int place, int value) {
        if (place <= 5) {
            a[place / 2][place % 2] = value;
        } else if (place <= 8) {
            b[place - 6] = value;
        } else if (place <= 14) {
            c[(place - 9) / 3][(place - 9) % 3] = value;
        } else if (place <= 16) {
            d[place - 15] = value;
        } else if (place <= 18) {
            e[place - 17] = value;
        } else {
            f = value;
        }
    }

    /** h0, h1, h2, g0, g1, result. */
    private int[] values(int x0, int x1) {
        int[] v = new int[6];
        for (int k = 0; k < 3; k++) {
            v[k] = Math.max(0, a[k][0] * x0 + a[k][1] * x1 + b[k]);
        }
        for (int k = 0; k < 2; k++) {
            v[3 + k] = Math.max(0, c[k][0] * v[0] + c[k][1] * v[1] + c[k][2] * v[2] + d[k]);
        }
        v[5] = e[0] * v[3] + e[1] * v[4] + f;
        return v;
    }

    private static boolean input(int x) {
        return x >= -16 && x <= 15;
    }

    private static boolean good(int interval) {
        for (int low = -16; low <= 15; low++) {
            for (int high = low; high <= 15; high++) {
                if (interval == 32 * (low + 16) + (high + 16)) {
                    return true;
                }
            }
        }
        return false;
    }

    private static boolean within(int x, int interval) {
        return x + 16 >= interval / 32 && x + 16 <= interval % 32;
    }

    /** The pairs of a box in their order. */
    private static List<Integer> box(int first, int second) {
        List<Integer> pairs = new ArrayList<>();
        for (int pair = 0; pair < 1024; pair++) {
            if (within(pair / 32 - 16, first) && within(pair % 32 - 16, second)) {
                pairs.add(pair);
            }
        }
        return pairs;
    }

    private int[] valuesOf(int pair) {
        return values(pair / 32 - 16, pair % 32 - 16);
    }

    int result(int x0, int x1) {
        return input(x0) && input(x1) ? values(x0, x1)[5] : -1000000;
    }

    int unit(int unit, int x0, int x1) {
        if (unit < 0 || unit > 4) {
            return -1;
        }
        return input(x0) && input(x1) ? values(x0, x1)[unit] : -2;
    }

    int most(int first, int second) {
        if (!good(first) || !good(second)) {
            return -1000000;
        }
        return box(first, second).stream().mapToInt(p -> valuesOf(p)[5]).max().getAsInt();
    }

    int least(int first, int second) {
        if (!good(first) || !good(second)) {
            return -1000000;
        }
        return box(first, second).stream().mapToInt(p -> valuesOf(p)[5]).min().getAsInt();
    }

    int mostAt(int first, int second) {
        if (!good(first) || !good(second)) {
            return -1;
        }
        int most = most(first, second);
        return box(first, second).stream().filter(p -> valuesOf(p)[5] == most).findFirst().get();
    }

    int safe(int first, int second, int limit) {
        if (!good(first) || !good(second)) {
            return -1;
        }
        return box(first, second).stream().allMatch(p -> valuesOf(p)[5] <= limit) ? 1 : 0;
    }

    int breach(int first, int second, int limit) {
        if (!good(first) || !good(second)) {
            return -1;
        }
        return box(first, second).stream().filter(p -> valuesOf(p)[5] > limit).findFirst().orElse(-2);
    }

    int fixed(int unit, int first, int second) {
        if (unit < 0 || unit > 4) {
            return -1;
        }
        if (!good(first) || !good(second)) {
            return -2;
        }
        List<Integer> pairs = box(first, second);
        if (pairs.stream().allMatch(p -> valuesOf(p)[unit] == 0)) {
            return 1;
        }
        return pairs.stream().allMatch(p -> valuesOf(p)[unit] > 0) ? 2 : 0;
    }

    /** Widens the square until it holds a pair above the limit; at 31 it holds every good pair. */
    int radius(int x0, int x1, int limit) {
        if (!input(x0) || !input(x1)) {
            return -1;
        }
        for (int r = 0; r <= 31; r++) {
            int first = Check.interval(Math.max(-16, x0 - r), Math.min(15, x0 + r));
            int second = Check.interval(Math.max(-16, x1 - r), Math.min(15, x1 + r));
            if (safe(first, second, limit) == 0) {
                return r == 0 ? -2 : r - 1;
            }
        }
        return 31;
    }

    int patterns(int first, int second) {
        if (!good(first) || !good(second)) {
            return -1;
        }
        Set<String> seen = new HashSet<>();
        for (int pair : box(first, second)) {
            StringBuilder marks = new StringBuilder();
            for (int unit = 0; unit < 5; unit++) {
                marks.append(valuesOf(pair)[unit] > 0 ? '+' : '0');
            }
            seen.add(marks.toString());
        }
        return seen.size();
    }
}
