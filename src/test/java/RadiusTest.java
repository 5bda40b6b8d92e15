/** Promise 13: radius. */
public final class RadiusTest {
    public static void main(String[] args) {
        byX0();
        byX1();
        bothWays();
        Check.end();
    }

    // The result is x0: clip of (x0 + 16), less 16.
    private static void byX0() {
        ReluBounds x = Check.network(0, 1, 6, 16, 9, 1, 17, 1, 19, -16);
        Check.due("x0 radius(10, 0, 12)", 2, x.radius(10, 0, 12));
        Check.due("x0 radius(10, 0, 10)", 0, x.radius(10, 0, 10));
        Check.due("x0 radius(10, 0, 9)", -2, x.radius(10, 0, 9));
        Check.due("x0 radius(14, 0, 15)", 31, x.radius(14, 0, 15));
        Check.due("x0 radius(-16, 3, 14)", 30, x.radius(-16, 3, 14));
        Check.due("x0 radius(-16, 3, 13)", 29, x.radius(-16, 3, 13));
        Check.due("x0 radius(-16, 3, 15)", 31, x.radius(-16, 3, 15));
        Check.due("x0 radius(-16, 3, -16)", 0, x.radius(-16, 3, -16));
        Check.due("x0 radius(-16, 3, -17)", -2, x.radius(-16, 3, -17));
        Check.due("x0 radius, greatest int", 31, x.radius(15, -16, Integer.MAX_VALUE));
        Check.due("x0 radius, least int", -2, x.radius(15, -16, Integer.MIN_VALUE));
    }

    // The result is -x1: clip of (15 - x1), less 15.
    private static void byX1() {
        ReluBounds x = Check.network(1, -1, 6, 15, 9, 1, 17, 1, 19, -15);
        Check.due("x1 radius(0, 15, 15)", 30, x.radius(0, 15, 15));
        Check.due("x1 radius(0, 15, 16)", 31, x.radius(0, 15, 16));
        Check.due("x1 radius(15, -10, 11)", 1, x.radius(15, -10, 11));
        Check.due("x1 radius(15, -10, 10)", 0, x.radius(15, -10, 10));
        Check.due("x1 radius(15, -10, 9)", -2, x.radius(15, -10, 9));
    }

    // The result is clip of (x0 + x1): corners of the square count, at twice the radius.
    private static void bothWays() {
        ReluBounds x = Check.network(0, 1, 1, 1, 9, 1, 17, 1);
        Check.due("sum radius(0, 0, 8)", 4, x.radius(0, 0, 8));
        Check.due("sum radius(0, 0, 9)", 4, x.radius(0, 0, 9));
        Check.due("sum radius(0, 0, 10)", 5, x.radius(0, 0, 10));
        // x0 stays at 15 at most, so x1 alone must rise above 5.
        Check.due("sum radius(15, 0, 20)", 5, x.radius(15, 0, 20));
        Check.due("sum radius(-16, -16, 29)", 30, x.radius(-16, -16, 29));
        Check.due("sum radius(-16, -16, 30)", 31, x.radius(-16, -16, 30));
    }
}
