/** Promise 4: topUp. */
public final class TopUpTest {
    public static void main(String[] args) {
        nothingGoesWithoutASecondBarrel();
        aBarrelGetsWhatItLacks();
        aBarrelGetsHalfAtMost();
        theLastBarrelComesFirst();
        whatGoesIsMixed();
        aBarrelAtNineTenthsGetsNothing();
        nothingComesFromAnEmptyBarrel();
        whatItLacksIsHalfOfWhatIsAhead();
        atNineTenthsOfEachSizeNothingIsLacking();
        theFirstBarrelIsNotToppedUp();
        addedInTheOrderInWhichTheyWent();
        anEmptyBarrelIsSteppedOver();
        aLossOfAYearIsWhatItLacks();
        Check.end();
    }

    private static void nothingGoesWithoutASecondBarrel() {
        VinegarLoft loft = new VinegarLoft();
        Check.that("topUp() without barrels", loft.topUp(), 0.0);
        loft.add(0, 50);
        loft.fill(50);
        Check.that("topUp() with one barrel", loft.topUp(), 0.0);
        Check.that("litresIn(0)", loft.litresIn(0), 50.0);
        loft.pourAway(0);
        loft.add(0, 20);
        Check.that("topUp() of an empty row", loft.topUp(), 0.0);
        Check.that("litresIn(1)", loft.litresIn(1), 0.0);
    }

    private static void aBarrelGetsWhatItLacks() {
        VinegarLoft loft = new VinegarLoft();
        loft.add(0, 100);
        loft.add(0, 33);
        loft.fill(100);
        double lack = 0.9 * 33;
        Check.that("topUp()", loft.topUp(), lack);
        Check.that("litresIn(1)", loft.litresIn(1), lack);
        Check.that("litresIn(0)", loft.litresIn(0), 100.0 - lack);
        Check.that("topUp() again", loft.topUp(), 0.0);
    }

    private static void aBarrelGetsHalfAtMost() {
        VinegarLoft loft = new VinegarLoft();
        loft.add(0, 100);
        loft.add(0, 90);
        loft.fill(31);
        Check.that("topUp()", loft.topUp(), 15.5);
        Check.that("litresIn(0)", loft.litresIn(0), 15.5);
        Check.that("topUp() again", loft.topUp(), 7.75);
        Check.that("litresIn(1)", loft.litresIn(1), 23.25);
    }

    private static void theLastBarrelComesFirst() {
        VinegarLoft loft = new VinegarLoft();
        loft.add(0, 80);
        loft.add(0, 40);
        loft.add(0, 20);
        loft.fill(80);
        Check.that("first topUp()", loft.topUp(), 36.0);
        Check.that("litresIn(2)", loft.litresIn(2), 0.0);
        Check.that("second topUp()", loft.topUp(), 18.0 + 18.0);
        Check.that("litresIn(0)", loft.litresIn(0), 26.0);
        Check.that("litresIn(1)", loft.litresIn(1), 36.0);
        Check.that("litresIn(2)", loft.litresIn(2), 18.0);
    }

    private static void whatGoesIsMixed() {
        VinegarLoft loft = new VinegarLoft();
        loft.add(1, 70);
        loft.add(2, 45);
        loft.fill(70);
        loft.topUp();
        loft.year();
        loft.fill(70);
        double[] ahead = {loft.ageOf(0), loft.acidOf(0), loft.sugarOf(0)};
        double[] before = {loft.ageOf(1), loft.acidOf(1), loft.sugarOf(1)};
        double v = loft.litresIn(1);
        double w = loft.topUp();
        double all = v + w;
        Check.that("what it lacks", w, 0.9 * 45 - v);
        Check.that("age", loft.ageOf(1), (v * before[0] + w * ahead[0]) / all);
        Check.that("acid", loft.acidOf(1), (v * before[1] + w * ahead[1]) / all);
        Check.that("sugar", loft.sugarOf(1), (v * before[2] + w * ahead[2]) / all);
        Check.that("age ahead", loft.ageOf(0), ahead[0]);
        Check.that("acid ahead", loft.acidOf(0), ahead[1]);
        Check.that("sugar ahead", loft.sugarOf(0), ahead[2]);
    }

    private static void aBarrelAtNineTenthsGetsNothing() {
        VinegarLoft loft = new VinegarLoft();
        loft.add(0, 100);
        loft.add(0, 20);
        loft.fill(100);
        loft.topUp();
        Check.that("litresIn(1)", loft.litresIn(1), 18.0);
        loft.fill(100);
        Check.that("topUp() at nine tenths", loft.topUp(), 0.0);
        Check.that("litresIn(0)", loft.litresIn(0), 100.0);
    }

    /** Mixing 0.0 litres by the formula would change a last bit here and there. */
    private static void nothingComesFromAnEmptyBarrel() {
        for (int size = 10; size < 100; size++) {
            VinegarLoft loft = new VinegarLoft();
            loft.add(1, 100);
            loft.add(2, size);
            for (int i = 0; i < 5; i++) {
                loft.fill(100);
                loft.topUp();
                loft.year();
            }
            loft.pourAway(0);
            double litres = loft.litresIn(1);
            double age = loft.ageOf(1);
            double acid = loft.acidOf(1);
            double sugar = loft.sugarOf(1);
            Check.that("topUp() from an empty barrel", loft.topUp(), 0.0);
            Check.that("litresIn(1)", loft.litresIn(1), litres);
            Check.that("ageOf(1)", loft.ageOf(1), age);
            Check.that("acidOf(1)", loft.acidOf(1), acid);
            Check.that("sugarOf(1)", loft.sugarOf(1), sugar);
        }
    }

    /** A barrel of 20 lacks 18.0: just half of 36.0, more than half of 35.0, less than half of 37.0. */
    private static void whatItLacksIsHalfOfWhatIsAhead() {
        double[][] aheadAndDue = {{35, 17.5}, {36, 18.0}, {37, 18.0}};
        for (double[] pair : aheadAndDue) {
            VinegarLoft loft = new VinegarLoft();
            loft.add(0, 50);
            loft.add(0, 20);
            loft.fill((int) pair[0]);
            Check.that("topUp() from " + pair[0], loft.topUp(), pair[1]);
            Check.that("litresIn(0)", loft.litresIn(0), pair[0] - pair[1]);
            Check.that("litresIn(1)", loft.litresIn(1), pair[1]);
        }
    }

    /** Of each size: once it holds 0.9 times its size, nothing is lacking, however full the barrel ahead is. */
    private static void atNineTenthsOfEachSizeNothingIsLacking() {
        for (int size = 10; size < 100; size++) {
            VinegarLoft loft = new VinegarLoft();
            loft.add(2, 100);
            loft.add(1, size);
            double due = 0.9 * size;
            for (int i = 0; i < 3; i++) {
                loft.fill(100);
                loft.topUp();
            }
            Check.that("litresIn(1) of " + size, loft.litresIn(1), due);
            for (int i = 0; i < 3; i++) {
                loft.fill(100);
                Check.that("topUp() at 0.9 of " + size, loft.topUp(), 0.0);
                Check.that("litresIn(0)", loft.litresIn(0), 100.0);
                loft.year();
                double left = due - due * 0.03 * 1.0;
                loft.fill(100);
                Check.that("topUp() below 0.9 of " + size, loft.topUp(), due - left);
                Check.that("litresIn(1) again", loft.litresIn(1), due);
            }
        }
    }

    private static void theFirstBarrelIsNotToppedUp() {
        VinegarLoft loft = new VinegarLoft();
        loft.add(0, 60);
        loft.add(0, 50);
        loft.fill(60);
        loft.topUp();
        loft.pourAway(0);
        Check.that("topUp()", loft.topUp(), 0.0);
        Check.that("litresIn(0)", loft.litresIn(0), 0.0);
        Check.that("litresIn(1)", loft.litresIn(1), 30.0);
    }

    /** From the last barrel on: summed the other way round, a last bit would differ here and there. */
    private static void addedInTheOrderInWhichTheyWent() {
        int apart = 0;
        VinegarLoft loft = new VinegarLoft();
        for (int i = 0; i < 6; i++) {
            loft.add(i % 4, 97 - 13 * i);
        }
        loft.setWarmth(27);
        for (int year = 0; year < 40; year++) {
            loft.fill(100);
            double[] before = new double[6];
            for (int i = 0; i < 6; i++) {
                before[i] = loft.litresIn(i);
            }
            double[] went = new double[6];
            double due = 0.0;
            for (int i = 5; i > 0; i--) {
                double lack = 0.9 * (97 - 13 * i) - before[i];
                double most = 0.5 * before[i - 1];
                went[i] = lack <= 0.0 ? 0.0 : lack < most ? lack : most;
                before[i - 1] = before[i - 1] - went[i];
                due = due + went[i];
            }
            double other = 0.0;
            for (int i = 1; i < 6; i++) {
                other = other + went[i];
            }
            Check.that("topUp() in year " + year, loft.topUp(), due);
            apart += due == other ? 0 : 1;
            loft.year();
        }
        Check.holds("the order shows somewhere", apart > 0);
    }

    private static void anEmptyBarrelIsSteppedOver() {
        VinegarLoft loft = new VinegarLoft();
        loft.add(0, 40);
        loft.add(0, 30);
        loft.add(0, 20);
        loft.fill(40);
        Check.that("topUp() with an empty one between", loft.topUp(), 20.0);
        Check.that("litresIn(1)", loft.litresIn(1), 20.0);
        Check.that("litresIn(2)", loft.litresIn(2), 0.0);
        Check.that("ageOf(2)", loft.ageOf(2), 0.0);
        Check.that("acidOf(2)", loft.acidOf(2), 0.0);
        Check.that("sugarOf(2)", loft.sugarOf(2), 0.0);
    }

    private static void aLossOfAYearIsWhatItLacks() {
        VinegarLoft loft = new VinegarLoft();
        loft.add(0, 100);
        loft.add(3, 20);
        loft.fill(100);
        loft.topUp();
        loft.year();
        double left = 18.0 - 18.0 * 0.025 * 1.0;
        Check.that("topUp()", loft.topUp(), 18.0 - left);
        Check.that("litresIn(1)", loft.litresIn(1), left + (18.0 - left));
    }
}
