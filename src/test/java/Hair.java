/**
 * Brings the last of three barrels a hair from a bound, by calls of the face alone.
 * The first barrel holds must, which the second one passes on in ever smaller halves.
 */
final class Hair {
    static final int FIRST = 0;
    static final int SECOND = 1;
    static final int LAST = 2;
    static final int AGE = 0;
    static final int ACID = 1;
    static final int SUGAR = 2;
    private static final double[] MUST = {0.0, 1.0, 30.0};

    private Hair() {
    }

    /** Three barrels of oak, of which the last one alone holds something: 25.0 litres of must, then aged. */
    static VinegarLoft lastAlone(int warmth, int years) {
        VinegarLoft loft = new VinegarLoft();
        loft.add(0, 100);
        loft.add(0, 99);
        loft.add(0, 98);
        loft.fill(100);
        loft.topUp();
        loft.topUp();
        emptyTheFeeders(loft);
        loft.setWarmth(warmth);
        for (int i = 0; i < years; i++) {
            loft.year();
        }
        return loft;
    }

    static void emptyTheFeeders(VinegarLoft loft) {
        loft.pourAway(FIRST);
        loft.pourAway(SECOND);
    }

    static double told(VinegarLoft loft, int what) {
        return what == AGE ? loft.ageOf(LAST) : what == ACID ? loft.acidOf(LAST) : loft.sugarOf(LAST);
    }

    /** What the value of the last barrel would be after the next topUp(), by the formula for mixing. */
    private static double foretold(VinegarLoft loft, int what, double value) {
        double v = loft.litresIn(LAST);
        double w = 0.5 * loft.litresIn(SECOND);
        return w == 0.0 ? value : (v * value + w * MUST[what]) / (v + w);
    }

    /**
     * The last barrel alone, aged, and then mixed with must until its value is the bound or a hair before it.
     * How near a row of halves comes hangs on the litres that are halved, so each number of litres is tried.
     */
    static VinegarLoft lastNear(int warmth, int years, int what, double bound) {
        VinegarLoft nearest = null;
        for (int litres = 1; litres <= 100; litres++) {
            VinegarLoft loft = lastAlone(warmth, years);
            approach(loft, what, bound, litres);
            if (nearest == null || distance(loft, what, bound) < distance(nearest, what, bound)) {
                nearest = loft;
            }
        }
        return nearest;
    }

    private static double distance(VinegarLoft loft, int what, double bound) {
        return Math.abs(told(loft, what) - bound);
    }

    /** Mixes in must as long as the value does not go beyond the bound. */
    private static void approach(VinegarLoft loft, int what, double bound, int litres) {
        double value = told(loft, what);
        boolean fromBelow = value < bound;
        loft.fill(litres);
        for (int i = 0; i < 60 && value != bound; i++) {
            double next = foretold(loft, what, value);
            if (fromBelow ? next > bound : next < bound) {
                loft.pourAway(SECOND);
            }
            loft.topUp();
            value = told(loft, what);
        }
        emptyTheFeeders(loft);
    }

    /** So little must that each value moves by some thousand of its last bits. */
    static void addAHairOfMust(VinegarLoft loft) {
        loft.fill(1);
        for (int i = 0; i < 36; i++) {
            loft.topUp();
            loft.pourAway(SECOND);
        }
        loft.topUp();
        loft.topUp();
        emptyTheFeeders(loft);
    }
}
