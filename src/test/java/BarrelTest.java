/** Promises 10 to 14: litresIn, ageOf, acidOf, sugarOf and tasteOf. */
public final class BarrelTest {
    public static void main(String[] args) {
        whatABarrelHolds();
        theTaste();
        wrongBarrels();
        theTasteOfNothing();
        theLastNumberAndTheNext();
        Check.end();
    }

    private static void whatABarrelHolds() {
        VinegarLoft loft = new VinegarLoft();
        loft.add(0, 60);
        loft.add(3, 40);
        loft.fill(60);
        loft.topUp();
        loft.year();
        double lost = 30.0 * 0.025 * 1.0;
        Check.that("litresIn(1)", loft.litresIn(1), 30.0 - lost);
        Check.that("ageOf(1)", loft.ageOf(1), 1.0);
        Check.that("acidOf(1)", loft.acidOf(1), 1.6);
        Check.that("sugarOf(1)", loft.sugarOf(1), 30.0 * 30.0 / (30.0 - lost) - 0.8);
        Check.that("litresIn(0)", loft.litresIn(0), 30.0 - 30.0 * 0.02 * 1.0);
    }

    private static void theTaste() {
        VinegarLoft loft = new VinegarLoft();
        loft.add(0, 60);
        Check.that("taste of nothing", loft.tasteOf(0), 0.0);
        loft.fill(60);
        Check.that("taste of must", loft.tasteOf(0), 0.5 * 0.0 + 0.8 * 30.0 - 3.0 * 5.0);
        boolean mild = false;
        boolean sharp = false;
        for (int i = 0; i < 60; i++) {
            loft.year();
            double apart = Math.abs(loft.acidOf(0) - 6.0);
            mild = mild || loft.acidOf(0) < 6.0;
            sharp = sharp || loft.acidOf(0) > 6.0;
            double due = (0.5 * loft.ageOf(0) + 0.8 * loft.sugarOf(0)) - 3.0 * apart;
            Check.that("taste in year " + i, loft.tasteOf(0), due);
        }
        Check.that("both sides of 6.0 were met", mild && sharp ? 1 : 0, 1);
    }

    private static void wrongBarrels() {
        VinegarLoft loft = new VinegarLoft();
        for (int count = 0; count < 3; count++) {
            for (int barrel : new int[] {-1, count, 8, Integer.MIN_VALUE, Integer.MAX_VALUE}) {
                String of = "(" + barrel + ") of " + count;
                Class<?> due = IndexOutOfBoundsException.class;
                Check.throwing("litresIn" + of, due, () -> loft.litresIn(barrel));
                Check.throwing("ageOf" + of, due, () -> loft.ageOf(barrel));
                Check.throwing("acidOf" + of, due, () -> loft.acidOf(barrel));
                Check.throwing("sugarOf" + of, due, () -> loft.sugarOf(barrel));
                Check.throwing("tasteOf" + of, due, () -> loft.tasteOf(barrel));
            }
            loft.add(0, 50 - count);
        }
    }

    /** By the formula an empty barrel would taste -18.0. */
    private static void theTasteOfNothing() {
        VinegarLoft loft = new VinegarLoft();
        loft.add(0, 60);
        loft.add(0, 50);
        loft.fill(60);
        Check.that("tasteOf(1) never filled", loft.tasteOf(1), 0.0);
        loft.pourAway(0);
        Check.that("tasteOf(0) poured away", loft.tasteOf(0), 0.0);
        loft.year();
        Check.that("tasteOf(0) a year later", loft.tasteOf(0), 0.0);
    }

    private static void theLastNumberAndTheNext() {
        VinegarLoft loft = new VinegarLoft();
        for (int count = 1; count <= 8; count++) {
            int next = count;
            loft.add(0, 100 - count);
            Check.that("litresIn(" + (count - 1) + ") of " + count, loft.litresIn(count - 1), 0.0);
            Check.throwing("litresIn(" + count + ") of " + count, IndexOutOfBoundsException.class,
                () -> loft.litresIn(next));
        }
    }
}
