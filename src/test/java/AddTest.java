/** Promises 2 and 9: add and barrels. */
public final class AddTest {
    public static void main(String[] args) {
        barrelsAreNumberedFromZero();
        theBoundsOfASize();
        wrongWoodsAndSizes();
        aWrongCallAddsNothing();
        thereAreAtMostEight();
        eachWoodLosesItsShare();
        aNewBarrelIsEmpty();
        behindTheSmallestNothingFits();
        behindABarrelEachSmallerSizeFits();
        theEighthStandsAndTheNinthIsRefused();
        anEmptiedBarrelKeepsItsPlaceAndItsSize();
        aBarrelAddedLaterIsEmptyToo();
        Check.end();
    }

    private static void barrelsAreNumberedFromZero() {
        VinegarLoft loft = new VinegarLoft();
        for (int i = 0; i < 8; i++) {
            Check.that("barrels() before add", loft.barrels(), i);
            Check.that("add", loft.add(i % 4, 100 - i), i);
        }
        Check.that("barrels()", loft.barrels(), 8);
    }

    private static void theBoundsOfASize() {
        VinegarLoft loft = new VinegarLoft();
        Check.that("add(0, 100)", loft.add(0, 100), 0);
        Check.that("add(3, 99)", loft.add(3, 99), 1);
        Check.that("add(3, 10)", loft.add(3, 10), 2);
        Check.throwing("add(3, 10) behind 10", IllegalArgumentException.class, () -> loft.add(3, 10));
        Check.that("add(0, 10) as the first", new VinegarLoft().add(0, 10), 0);
    }

    private static void wrongWoodsAndSizes() {
        int[][] wrong = {{-1, 50}, {4, 50}, {0, 9}, {0, 101}, {0, 0}, {0, -50}, {0, 70}, {0, 60},
            {Integer.MIN_VALUE, 50}, {Integer.MAX_VALUE, 50}, {0, Integer.MIN_VALUE}, {0, Integer.MAX_VALUE}};
        for (int[] call : wrong) {
            VinegarLoft loft = new VinegarLoft();
            loft.add(0, 60);
            Check.throwing("add(" + call[0] + ", " + call[1] + ")", IllegalArgumentException.class,
                () -> loft.add(call[0], call[1]));
        }
        Check.throwing("add(0, 101) as the first", IllegalArgumentException.class,
            () -> new VinegarLoft().add(0, 101));
        Check.throwing("add(0, 9) as the first", IllegalArgumentException.class,
            () -> new VinegarLoft().add(0, 9));
    }

    private static void aWrongCallAddsNothing() {
        VinegarLoft loft = new VinegarLoft();
        loft.add(0, 60);
        Check.throwing("add(4, 50)", IllegalArgumentException.class, () -> loft.add(4, 50));
        Check.throwing("add(0, 60)", IllegalArgumentException.class, () -> loft.add(0, 60));
        Check.that("barrels() after wrong calls", loft.barrels(), 1);
        Check.that("add(0, 59)", loft.add(0, 59), 1);
    }

    private static void thereAreAtMostEight() {
        VinegarLoft loft = new VinegarLoft();
        for (int i = 0; i < 8; i++) {
            loft.add(0, 80 - i);
        }
        Check.throwing("a ninth barrel", IllegalStateException.class, () -> loft.add(0, 20));
        Check.throwing("a ninth of no wood", IllegalArgumentException.class, () -> loft.add(4, 20));
        Check.throwing("a ninth too large", IllegalArgumentException.class, () -> loft.add(0, 73));
        Check.throwing("a ninth too small", IllegalArgumentException.class, () -> loft.add(0, 9));
        Check.that("barrels()", loft.barrels(), 8);
    }

    private static void eachWoodLosesItsShare() {
        double[] shares = {0.02, 0.03, 0.035, 0.025};
        for (int wood = 0; wood < 4; wood++) {
            VinegarLoft loft = new VinegarLoft();
            loft.add(wood, 77);
            loft.fill(77);
            Check.that("lost from wood " + wood, loft.year(), 77.0 * shares[wood] * 1.0);
        }
    }

    private static void aNewBarrelIsEmpty() {
        VinegarLoft loft = new VinegarLoft();
        loft.add(2, 40);
        Check.that("litresIn", loft.litresIn(0), 0.0);
        Check.that("ageOf", loft.ageOf(0), 0.0);
        Check.that("acidOf", loft.acidOf(0), 0.0);
        Check.that("sugarOf", loft.sugarOf(0), 0.0);
        Check.that("tasteOf", loft.tasteOf(0), 0.0);
    }

    /** A barrel of 10 litres is the last one: a size below it is out of range by itself. */
    private static void behindTheSmallestNothingFits() {
        VinegarLoft loft = new VinegarLoft();
        loft.add(0, 10);
        for (int size = -1; size <= 101; size++) {
            int asked = size;
            Check.throwing("add(0, " + size + ") behind 10", IllegalArgumentException.class,
                () -> loft.add(0, asked));
        }
        Check.that("barrels()", loft.barrels(), 1);
    }

    private static void behindABarrelEachSmallerSizeFits() {
        for (int last = 11; last <= 100; last++) {
            for (int size : new int[] {10, last - 1}) {
                VinegarLoft loft = new VinegarLoft();
                loft.add(0, last);
                Check.that("add(1, " + size + ") behind " + last, loft.add(1, size), 1);
            }
            VinegarLoft full = new VinegarLoft();
            full.add(0, last);
            int same = last;
            Check.throwing("add(1, " + last + ") behind " + last, IllegalArgumentException.class,
                () -> full.add(1, same));
        }
    }

    private static void theEighthStandsAndTheNinthIsRefused() {
        VinegarLoft loft = new VinegarLoft();
        for (int i = 0; i < 7; i++) {
            loft.add(3, 17 - i);
        }
        Check.that("the eighth", loft.add(3, 10), 7);
        Check.throwing("a ninth behind 10", IllegalArgumentException.class, () -> loft.add(3, 9));
        VinegarLoft roomy = new VinegarLoft();
        for (int i = 0; i < 8; i++) {
            roomy.add(0, 100 - i);
        }
        roomy.pourAway(7);
        for (int size : new int[] {10, 92}) {
            Check.throwing("a ninth of " + size, IllegalStateException.class, () -> roomy.add(0, size));
        }
        Check.that("barrels()", roomy.barrels(), 8);
    }

    private static void anEmptiedBarrelKeepsItsPlaceAndItsSize() {
        VinegarLoft loft = new VinegarLoft();
        loft.add(0, 40);
        loft.fill(40);
        loft.pourAway(0);
        Check.throwing("add(0, 40) behind an empty 40", IllegalArgumentException.class, () -> loft.add(0, 40));
        Check.that("add(0, 39)", loft.add(0, 39), 1);
        Check.that("fill(100) into the first one", loft.fill(100), 40.0);
    }

    private static void aBarrelAddedLaterIsEmptyToo() {
        VinegarLoft loft = new VinegarLoft();
        loft.add(0, 40);
        loft.fill(40);
        loft.year();
        Check.that("add(1, 39)", loft.add(1, 39), 1);
        Check.that("litresIn", loft.litresIn(1), 0.0);
        Check.that("ageOf", loft.ageOf(1), 0.0);
        Check.that("acidOf", loft.acidOf(1), 0.0);
        Check.that("sugarOf", loft.sugarOf(1), 0.0);
        Check.that("oldest()", loft.oldest(), 0);
    }
}
