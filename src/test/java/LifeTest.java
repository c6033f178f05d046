/** An object is used for at most 512 calls: up to the last of them each call answers. */
public final class LifeTest {
    private static final int CALLS = 512;

    public static void main(String[] args) {
        fiveHundredYears();
        fiveHundredTimesToppedUp();
        fiveHundredTimesAskedAhead();
        fiveHundredRefusals();
        theLastCallsTellTheSmallestLitres();
        Check.end();
    }

    /** Nothing runs out in 510 of the warmest years: what is left is little, and not empty. */
    private static void fiveHundredYears() {
        VinegarLoft loft = new VinegarLoft();
        loft.add(2, 100);
        loft.setWarmth(40);
        loft.fill(100);
        double litres = 100.0;
        double draught = 1.0 + 0.05 * (40 - 18);
        for (int call = 4; call <= CALLS - 6; call++) {
            double lost = litres * 0.035 * draught;
            litres = litres - lost;
            Check.that("year() as call " + call, loft.year(), lost);
        }
        Check.that("litresIn", loft.litresIn(0), litres);
        Check.holds("very little is left", litres > 0.0 && litres < 1e-12);
        Check.that("ageOf", loft.ageOf(0), CALLS - 9);
        Check.that("years()", loft.years(), CALLS - 9);
        Check.that("oldest()", loft.oldest(), 0);
        Check.that("drawable()", loft.drawable(), 0);
        Check.that("meanAge()", loft.meanAge(), litres * (CALLS - 9) / litres);
    }

    /** Each time the first barrel gives half of what it holds, so it is never empty. */
    private static void fiveHundredTimesToppedUp() {
        VinegarLoft loft = new VinegarLoft();
        loft.add(0, 100);
        loft.add(0, 99);
        loft.fill(64);
        double ahead = 64.0;
        for (int call = 4; call <= CALLS - 2; call++) {
            ahead = ahead / 2.0;
            Check.that("topUp() as call " + call, loft.topUp(), ahead);
        }
        Check.that("litresIn(0)", loft.litresIn(0), ahead);
        Check.that("oldest()", loft.oldest(), 1);
    }

    private static void fiveHundredTimesAskedAhead() {
        VinegarLoft loft = new VinegarLoft();
        for (int i = 0; i < 8; i++) {
            loft.add(i % 4, 100 - i);
        }
        int due = loft.firstBottleIn();
        Check.holds("a bottle comes", due > 0);
        for (int call = 10; call <= CALLS; call++) {
            Check.that("firstBottleIn() as call " + call, loft.firstBottleIn(), due);
        }
    }

    private static void fiveHundredRefusals() {
        VinegarLoft loft = new VinegarLoft();
        for (int call = 1; call < CALLS; call++) {
            Check.throwing("fill(0) as call " + call, IllegalArgumentException.class, () -> loft.fill(0));
        }
        Check.that("add as the last call", loft.add(0, 50), 0);
    }

    /** The mean of a hair is told like that of a full row. */
    private static void theLastCallsTellTheSmallestLitres() {
        VinegarLoft loft = new VinegarLoft();
        loft.add(0, 100);
        loft.add(0, 99);
        loft.fill(1);
        loft.year();
        double age = loft.ageOf(0);
        for (int call = 6; call <= CALLS - 9; call += 2) {
            loft.topUp();
            loft.pourAway(1);
        }
        double litres = loft.litresIn(0);
        Check.holds("a hair is left", litres > 0.0 && litres < 1e-70);
        Check.that("oldest()", loft.oldest(), 0);
        Check.that("meanAge()", loft.meanAge(), litres * age / litres);
        Check.that("meanSugar()", loft.meanSugar(), litres * loft.sugarOf(0) / litres);
        Check.that("year()", loft.year(), litres * 0.02 * 1.0);
        Check.that("ageOf of a hair", loft.ageOf(0), 2.0);
        Check.holds("the hair tastes", loft.tasteOf(0) != 0.0);
    }
}
