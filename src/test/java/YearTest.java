/** Promises 5, 8 and 18: year, setWarmth and years. */
public final class YearTest {
    public static void main(String[] args) {
        yearsAreCounted();
        waterGoesAndSugarStays();
        theDraughtFollowsTheWarmth();
        theLossIsAProductInItsOrder();
        theLossIsAddedInTheOrderOfTheBarrels();
        anEmptyBarrelDoesNotAge();
        sugarStopsAtSeventy();
        acidGrowsSlowlyAtTheEnd();
        wrongWarmth();
        theWarmthIsEighteenAtFirst();
        theWarmthCountsFromThenOn();
        theLeastAndTheGreatestWarmth();
        theOrderOfTheLossShows();
        anEmptyRowHasYearsToo();
        Check.end();
    }

    private static VinegarLoft filled(int wood, int size, int warmth) {
        VinegarLoft loft = new VinegarLoft();
        loft.add(wood, size);
        loft.fill(size);
        loft.setWarmth(warmth);
        return loft;
    }

    private static void yearsAreCounted() {
        VinegarLoft loft = new VinegarLoft();
        Check.that("years()", loft.years(), 0);
        Check.that("year() without barrels", loft.year(), 0.0);
        Check.that("years()", loft.years(), 1);
        loft.add(0, 50);
        Check.that("year() with an empty barrel", loft.year(), 0.0);
        loft.fill(50);
        loft.year();
        Check.that("years()", loft.years(), 3);
        loft.firstBottleIn();
        Check.that("years() after firstBottleIn()", loft.years(), 3);
    }

    private static void waterGoesAndSugarStays() {
        VinegarLoft loft = filled(3, 61, 18);
        double lost = 61.0 * 0.025 * 1.0;
        Check.that("year()", loft.year(), lost);
        double behind = 61.0 - lost;
        Check.that("litresIn", loft.litresIn(0), behind);
        Check.that("sugarOf", loft.sugarOf(0), 30.0 * 61.0 / behind - 0.8);
        Check.that("acidOf", loft.acidOf(0), 1.0 + 0.6);
        Check.that("ageOf", loft.ageOf(0), 1.0);
    }

    private static void theDraughtFollowsTheWarmth() {
        for (int warmth = 0; warmth <= 40; warmth++) {
            double draught = 1.0 + 0.05 * (warmth - 18);
            if (draught < 0.2) {
                draught = 0.2;
            }
            VinegarLoft loft = filled(2, 83, warmth);
            Check.that("year() at " + warmth, loft.year(), 83.0 * 0.035 * draught);
        }
        Check.that("at 0 the draught is 0.2", filled(0, 100, 0).year(), 100.0 * 0.02 * 0.2);
        Check.that("at 2 the draught is 0.2", filled(0, 100, 2).year(), 100.0 * 0.02 * 0.2);
    }

    private static void theLossIsAProductInItsOrder() {
        for (int size = 10; size <= 100; size++) {
            double draught = 1.0 + 0.05 * (31 - 18);
            Check.that("lost of " + size, filled(1, size, 31).year(), (size * 0.03) * draught);
        }
    }

    private static void theLossIsAddedInTheOrderOfTheBarrels() {
        VinegarLoft loft = filled(0, 97, 23);
        loft.add(1, 53);
        loft.add(2, 29);
        loft.add(3, 17);
        for (int i = 0; i < 4; i++) {
            loft.topUp();
        }
        double draught = 1.0 + 0.05 * (23 - 18);
        double due = loft.litresIn(0) * 0.02 * draught;
        due = due + loft.litresIn(1) * 0.03 * draught;
        due = due + loft.litresIn(2) * 0.035 * draught;
        due = due + loft.litresIn(3) * 0.025 * draught;
        Check.that("year()", loft.year(), due);
    }

    private static void anEmptyBarrelDoesNotAge() {
        VinegarLoft loft = filled(0, 50, 18);
        loft.add(0, 40);
        loft.year();
        Check.that("ageOf(1)", loft.ageOf(1), 0.0);
        Check.that("acidOf(1)", loft.acidOf(1), 0.0);
        Check.that("sugarOf(1)", loft.sugarOf(1), 0.0);
        Check.that("litresIn(1)", loft.litresIn(1), 0.0);
    }

    /** At 40 degrees mulberry loses so much that the sugar is held at 70.0, and the acid still grows. */
    private static void sugarStopsAtSeventy() {
        VinegarLoft loft = filled(2, 100, 40);
        boolean held = false;
        for (int i = 0; i < 40; i++) {
            double before = loft.litresIn(0);
            double sugar = loft.sugarOf(0);
            double acid = loft.acidOf(0);
            loft.year();
            double thicker = sugar * before / loft.litresIn(0);
            held = held || thicker > 70.0;
            thicker = thicker > 70.0 ? 70.0 : thicker;
            Check.that("sugar in year " + i, loft.sugarOf(0), acid < 8.0 ? thicker - 0.8 : thicker);
        }
        Check.that("sugar was held", held ? 1 : 0, 1);
        Check.that("sugar at the end", loft.sugarOf(0), 70.0);
    }

    private static void acidGrowsSlowlyAtTheEnd() {
        VinegarLoft loft = filled(0, 100, 18);
        double due = 1.0;
        for (int i = 0; i < 80; i++) {
            due = due < 8.0 ? due + 0.6 : due + 0.1;
            due = due > 12.0 ? 12.0 : due;
            loft.year();
            Check.that("acid in year " + i, loft.acidOf(0), due);
            Check.that("age in year " + i, loft.ageOf(0), i + 1.0);
        }
        Check.that("acid at the end", loft.acidOf(0), 12.0);
    }

    private static void wrongWarmth() {
        VinegarLoft loft = filled(0, 100, 40);
        for (int degrees : new int[] {-1, 41, Integer.MIN_VALUE, Integer.MAX_VALUE}) {
            Check.throwing("setWarmth(" + degrees + ")", IllegalArgumentException.class,
                () -> loft.setWarmth(degrees));
        }
        Check.that("warmth after wrong calls", loft.year(), 100.0 * 0.02 * (1.0 + 0.05 * (40 - 18)));
    }

    private static void theWarmthIsEighteenAtFirst() {
        VinegarLoft loft = new VinegarLoft();
        loft.add(0, 100);
        loft.fill(100);
        Check.that("year() of a new loft", loft.year(), 100.0 * 0.02 * 1.0);
    }

    private static void theWarmthCountsFromThenOn() {
        VinegarLoft loft = filled(3, 90, 30);
        double litres = 90.0;
        for (int warmth : new int[] {30, 5, 5, 40, 0, 18}) {
            loft.setWarmth(warmth);
            for (int i = 0; i < 2; i++) {
                double draught = 1.0 + 0.05 * (warmth - 18);
                double lost = litres * 0.025 * (draught < 0.2 ? 0.2 : draught);
                Check.that("year() at " + warmth, loft.year(), lost);
                litres = litres - lost;
                Check.that("litresIn at " + warmth, loft.litresIn(0), litres);
            }
        }
        loft.setWarmth(1);
        loft.setWarmth(37);
        Check.that("the warmth set last", loft.year(), litres * 0.025 * (1.0 + 0.05 * (37 - 18)));
    }

    private static void theLeastAndTheGreatestWarmth() {
        Check.that("at 0", filled(1, 64, 0).year(), 64.0 * 0.03 * 0.2);
        Check.that("at 1", filled(1, 64, 1).year(), 64.0 * 0.03 * 0.2);
        Check.that("at 2", filled(1, 64, 2).year(), 64.0 * 0.03 * 0.2);
        Check.that("at 3", filled(1, 64, 3).year(), 64.0 * 0.03 * (1.0 + 0.05 * (3 - 18)));
        Check.that("at 40", filled(1, 64, 40).year(), 64.0 * 0.03 * (1.0 + 0.05 * (40 - 18)));
        Check.holds("the draught at 2 would be a hair below 0.2", 1.0 + 0.05 * (2 - 18) < 0.2);
    }

    /** Summed from the last barrel on, a last bit would differ here and there. */
    private static void theOrderOfTheLossShows() {
        VinegarLoft loft = filled(0, 97, 23);
        double[] shares = {0.02, 0.03, 0.035, 0.025};
        for (int i = 1; i < 4; i++) {
            loft.add(i, 97 - 20 * i);
        }
        int apart = 0;
        double draught = 1.0 + 0.05 * (23 - 18);
        for (int year = 0; year < 40; year++) {
            loft.fill(100);
            loft.topUp();
            double due = 0.0;
            double other = 0.0;
            for (int i = 0; i < 4; i++) {
                due = due + loft.litresIn(i) * shares[i] * draught;
                other = other + loft.litresIn(3 - i) * shares[3 - i] * draught;
            }
            Check.that("year() " + year, loft.year(), due);
            apart += due == other ? 0 : 1;
        }
        Check.holds("the order shows somewhere", apart > 0);
    }

    private static void anEmptyRowHasYearsToo() {
        VinegarLoft loft = filled(0, 50, 18);
        loft.pourAway(0);
        Check.that("year() of an emptied row", loft.year(), 0.0);
        Check.that("ageOf", loft.ageOf(0), 0.0);
        Check.that("sugarOf", loft.sugarOf(0), 0.0);
        Check.that("acidOf", loft.acidOf(0), 0.0);
        Check.that("years()", loft.years(), 1);
        loft.draw(1);
        loft.topUp();
        loft.fill(1);
        Check.that("years() after other calls", loft.years(), 1);
    }
}
