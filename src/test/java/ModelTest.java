/** Promises 5 to 14: many networks, each asked everything, compared with the model. */
public final class ModelTest {
    private static final int NETWORKS = 1500;

    private static long state = 20261115L;

    public static void main(String[] args) {
        for (int run = 0; run < NETWORKS; run++) {
            ReluBounds x = new ReluBounds();
            Model model = new Model();
            grow(run, x);
            int[] before = Check.numbersOf(x);
            for (int place = 0; place < before.length; place++) {
                model.put(place, before[place]);
            }
            for (int round = 0; round < 6; round++) {
                ask("run " + run + ": ", x, model);
            }
            Check.sameNumbers("after questions, run " + run, before, x);
        }
        Check.end();
    }

    // The same numbers on every run: the tests have no source of chance.
    private static int next(int low, int high) {
        state = state * 6364136223846793005L + 1442695040888963407L;
        return low + (int) ((state >>> 33) % (high - low + 1));
    }

    private static void grow(int run, ReluBounds x) {
        if (run % 3 != 0) {
            x.sow(next(0, 100), next(0, 20));
        }
        int sets = run % 3 == 0 ? 60 : run % 3 == 1 ? 0 : 5;
        for (int i = 0; i < sets; i++) {
            int place = next(0, 19);
            boolean factor = place < 6 || (place > 8 && place < 15) || place == 17 || place == 18;
            x.set(place, factor ? next(-5, 5) : next(-50, 50));
        }
    }

    private static int someInterval() {
        if (next(0, 19) == 0) {
            return next(-40, 1100);
        }
        int one = next(-16, 15);
        int other = next(0, 2) == 0 ? next(-16, 15) : Math.min(15, one + next(0, 6));
        return Check.interval(Math.min(one, other), Math.max(one, other));
    }

    private static int someInput() {
        return next(0, 29) == 0 ? next(-20, 20) : next(-16, 15);
    }

    private static void ask(String run, ReluBounds x, Model m) {
        int first = someInterval();
        int second = someInterval();
        int x0 = someInput();
        int x1 = someInput();
        int unit = next(0, 19) == 0 ? next(-2, 6) : next(0, 4);
        int most = m.most(first, second);
        int limit = most + next(-3, 2);
        int nearby = m.result(x0, x1) + next(-1, 150);
        String box = "(" + first + ", " + second + ")";
        Check.due(run + "result(" + x0 + ", " + x1 + ")", m.result(x0, x1), x.result(x0, x1));
        Check.due(run + "unit(" + unit + ", " + x0 + ", " + x1 + ")", m.unit(unit, x0, x1),
                x.unit(unit, x0, x1));
        Check.due(run + "most" + box, most, x.most(first, second));
        Check.due(run + "least" + box, m.least(first, second), x.least(first, second));
        Check.due(run + "mostAt" + box, m.mostAt(first, second), x.mostAt(first, second));
        Check.due(run + "safe" + box + " limit " + limit, m.safe(first, second, limit),
                x.safe(first, second, limit));
        Check.due(run + "breach" + box + " limit " + limit, m.breach(first, second, limit),
                x.breach(first, second, limit));
        Check.due(run + "fixed" + box + " unit " + unit, m.fixed(unit, first, second),
                x.fixed(unit, first, second));
        Check.due(run + "radius(" + x0 + ", " + x1 + ", " + nearby + ")", m.radius(x0, x1, nearby),
                x.radius(x0, x1, nearby));
        Check.due(run + "patterns" + box, m.patterns(first, second), x.patterns(first, second));
    }
}
