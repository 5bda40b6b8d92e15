/** What README.md tells: its example's answers, and how it writes intervals and pairs. */
public final class ReadmeTest {
    public static void main(String[] args) {
        example();
        intervals();
        Check.end();
    }

    private static void example() {
        ReluBounds net = Check.network(0, 1, 2, -1, 9, 1, 10, 1, 17, 1);
        int middle = 32 * (-3 + 16) + (5 + 16);
        Check.due("get(2)", -1, net.get(2));
        Check.due("result(-4, 0)", 4, net.result(-4, 0));
        Check.due("unit(1, -4, 0)", 4, net.unit(1, -4, 0));
        Check.due("most(middle, middle)", 5, net.most(middle, middle));
        Check.due("least(middle, middle)", 0, net.least(middle, middle));
        Check.due("mostAt(middle, middle)", 685, net.mostAt(middle, middle));
        Check.due("685 is the pair (5, -3)", 685, Check.pair(5, -3));
        Check.due("safe(middle, middle, 5)", 1, net.safe(middle, middle, 5));
        Check.due("breach(middle, middle, 3)", 653, net.breach(middle, middle, 3));
        Check.due("653 is the pair (4, -3)", 653, Check.pair(4, -3));
        Check.due("fixed(0, middle, middle)", 0, net.fixed(0, middle, middle));
        Check.due("radius(0, 0, 7)", 7, net.radius(0, 0, 7));
        Check.due("patterns(middle, middle)", 3, net.patterns(middle, middle));
        Check.due("set(0, 6)", -2, net.set(0, 6));
    }

    private static void intervals() {
        Check.due("all inputs", 31, Check.interval(-16, 15));
        for (int x = -16; x <= 15; x++) {
            Check.due("the input " + x + " alone", 33 * (x + 16), Check.interval(x, x));
        }
    }
}
