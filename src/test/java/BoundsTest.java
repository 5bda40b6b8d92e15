/** Promises 7 to 11: most, least, mostAt, safe, breach. */
public final class BoundsTest {
    private static final int ALL = Check.interval(-16, 15);

    public static void main(String[] args) {
        ridge();
        valley();
        firstPairsGoByX0();
        constant();
        onePairBoxes();
        Check.end();
    }

    // The result is |x0|.
    private static void ridge() {
        ReluBounds x = Check.network(0, 1, 2, -1, 9, 1, 10, 1, 17, 1);
        int middle = Check.interval(-3, 3);
        int side = Check.interval(5, 9);
        Check.due("ridge most, all", 16, x.most(ALL, ALL));
        Check.due("ridge least, all", 0, x.least(ALL, ALL));
        Check.due("ridge mostAt, all", 0, x.mostAt(ALL, ALL));
        Check.due("ridge most, middle", 3, x.most(middle, side));
        Check.due("ridge least, middle", 0, x.least(middle, side));
        Check.due("ridge mostAt, a tie", Check.pair(-3, 5), x.mostAt(middle, side));
        Check.due("ridge most, side", 9, x.most(side, middle));
        Check.due("ridge least, side", 5, x.least(side, middle));
        Check.due("ridge mostAt, side", Check.pair(9, -3), x.mostAt(side, middle));
        Check.due("ridge safe at the most", 1, x.safe(side, middle, 9));
        Check.due("ridge safe below the most", 0, x.safe(side, middle, 8));
        Check.due("ridge breach at the most", -2, x.breach(side, middle, 9));
        Check.due("ridge breach below the most", Check.pair(9, -3), x.breach(side, middle, 8));
        Check.due("ridge breach in between", Check.pair(7, -3), x.breach(side, middle, 6));
        Check.due("ridge breach below all", Check.pair(5, -3), x.breach(side, middle, -7));
    }

    // The result is 10 - 2 * |x1|: the most lies inside the box, the least at its border.
    private static void valley() {
        ReluBounds x = Check.network(1, 1, 3, -1, 12, 1, 13, 1, 18, -2, 19, 10);
        int wide = Check.interval(-7, 4);
        Check.due("valley most", 10, x.most(wide, wide));
        Check.due("valley least", -4, x.least(wide, wide));
        Check.due("valley mostAt", Check.pair(-7, 0), x.mostAt(wide, wide));
        Check.due("valley safe", 1, x.safe(wide, wide, 10));
        Check.due("valley not safe", 0, x.safe(wide, wide, 9));
        Check.due("valley breach", Check.pair(-7, -2), x.breach(wide, wide, 5));
        Check.due("valley all below 0, most", -6, x.most(wide, Check.interval(-16, -8)));
        Check.due("valley all below 0, least", -22, x.least(wide, Check.interval(-16, -8)));
        Check.due("valley all below 0, mostAt", Check.pair(-7, -8),
                x.mostAt(wide, Check.interval(-16, -8)));
    }

    // The result is clip of x0 + x1: of the pairs above a limit, the one with the least x0 is first.
    private static void firstPairsGoByX0() {
        ReluBounds x = Check.network(0, 1, 1, 1, 9, 1, 17, 1);
        int box = Check.interval(0, 5);
        Check.due("sum breach at 5", Check.pair(1, 5), x.breach(box, box, 5));
        Check.due("sum breach at 4", Check.pair(0, 5), x.breach(box, box, 4));
        Check.due("sum mostAt", Check.pair(5, 5), x.mostAt(box, box));
        int below = Check.interval(-16, 0);
        Check.due("sum mostAt, a tie", 0, x.mostAt(below, below));
        Check.due("sum, intervals are not exchanged", 14, x.most(Check.interval(2, 4), Check.interval(9, 10)));
        Check.due("sum mostAt, intervals are not exchanged", Check.pair(4, 10),
                x.mostAt(Check.interval(2, 4), Check.interval(9, 10)));
    }

    private static void constant() {
        ReluBounds x = Check.network(19, -50);
        Check.due("constant most", -50, x.most(ALL, ALL));
        Check.due("constant least", -50, x.least(ALL, ALL));
        Check.due("constant mostAt", Check.pair(3, 4), x.mostAt(Check.interval(3, 9), Check.interval(4, 4)));
        Check.due("constant safe", 1, x.safe(ALL, ALL, -50));
        Check.due("constant not safe", 0, x.safe(ALL, ALL, -51));
        Check.due("constant safe, greatest int", 1, x.safe(ALL, ALL, Integer.MAX_VALUE));
        Check.due("constant safe, least int", 0, x.safe(ALL, ALL, Integer.MIN_VALUE));
        Check.due("constant breach, greatest int", -2, x.breach(ALL, ALL, Integer.MAX_VALUE));
        Check.due("constant breach, least int", 0, x.breach(ALL, ALL, Integer.MIN_VALUE));
    }

    private static void onePairBoxes() {
        int[] edges = {-16, -1, 0, 15};
        for (int x0 : edges) {
            for (int x1 : edges) {
                ReluBounds x = new ReluBounds();
                x.sow(50, 13);
                int first = Check.interval(x0, x0);
                int second = Check.interval(x1, x1);
                String where = " on the one pair " + x0 + ", " + x1;
                int result = x.result(x0, x1);
                Check.due("most" + where, result, x.most(first, second));
                Check.due("least" + where, result, x.least(first, second));
                Check.due("mostAt" + where, Check.pair(x0, x1), x.mostAt(first, second));
                Check.due("safe" + where, 1, x.safe(first, second, result));
                Check.due("not safe" + where, 0, x.safe(first, second, result - 1));
                Check.due("breach" + where, Check.pair(x0, x1), x.breach(first, second, result - 1));
                Check.due("no breach" + where, -2, x.breach(first, second, result));
            }
        }
    }
}
