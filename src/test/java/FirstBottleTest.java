/** Promise 21: firstBottleIn. */
public final class FirstBottleTest {
    public static void main(String[] args) {
        withoutBarrels();
        itIsTheYearInWhichABottleCanBeDrawn();
        aBottleMayComeLate();
        theFirstBarrelIsFilledToTheBrim();
        oneBottleIsEnough();
        nothingChangesByAsking();
        Check.end();
    }

    private static void withoutBarrels() {
        VinegarLoft loft = new VinegarLoft();
        Check.that("without barrels", loft.firstBottleIn(), -1);
        Check.that("barrels()", loft.barrels(), 0);
    }

    /** Fills up, tops up and waits on the loft itself, up to 61 years; -1 beyond 60. */
    private static int livedThrough(VinegarLoft loft) {
        for (int i = 0; i <= 60; i++) {
            if (loft.drawable() > 0) {
                return i;
            }
            loft.fill(100);
            loft.topUp();
            loft.year();
        }
        return -1;
    }

    private static VinegarLoft row(int warmth, int... sizes) {
        VinegarLoft loft = new VinegarLoft();
        loft.setWarmth(warmth);
        for (int size : sizes) {
            loft.add(size % 4, size);
        }
        return loft;
    }

    private static void itIsTheYearInWhichABottleCanBeDrawn() {
        int[][] rows = {{50, 40, 30}, {100, 99, 98, 97, 96, 95, 94, 93}, {80, 40, 20, 10}, {100, 10}, {57, 41}};
        for (int[] sizes : rows) {
            for (int warmth = 0; warmth <= 40; warmth += 4) {
                int due = livedThrough(row(warmth, sizes));
                Check.that("firstBottleIn() of " + sizes.length + " barrels at " + warmth,
                    row(warmth, sizes).firstBottleIn(), due);
                VinegarLoft going = row(warmth, sizes);
                for (int i = 0; i < due; i++) {
                    Check.that("firstBottleIn() after " + i, going.firstBottleIn(), due - i);
                    going.fill(100);
                    going.topUp();
                    going.year();
                }
                Check.that("firstBottleIn() now", due < 0 ? 0 : going.firstBottleIn(), 0);
            }
        }
    }

    /**
     * In the cold the sugar comes back so slowly that the first bottle takes over fifty years.
     * A row that takes more than sixty was not found: -1 comes from a loft without barrels.
     */
    private static void aBottleMayComeLate() {
        int due = livedThrough(row(0, 100, 96, 92));
        Check.that("a late bottle", due > 50 ? 1 : 0, 1);
        Check.that("firstBottleIn() in the cold", row(0, 100, 96, 92).firstBottleIn(), due);
    }

    private static void theFirstBarrelIsFilledToTheBrim() {
        VinegarLoft asked = row(30, 100, 40);
        VinegarLoft lived = row(30, 100, 40);
        asked.fill(7);
        lived.fill(7);
        for (int i = 0; i < 5; i++) {
            asked.year();
            lived.year();
        }
        Check.that("firstBottleIn() of a nearly empty row", asked.firstBottleIn(), livedThrough(lived));
    }

    private static void oneBottleIsEnough() {
        VinegarLoft loft = row(18, 50);
        loft.fill(50);
        for (int i = 0; i < 15; i++) {
            loft.year();
        }
        Check.that("draw all but one", loft.draw(loft.drawable() - 1) > 0 ? 1 : 0, 1);
        Check.that("drawable()", loft.drawable(), 1);
        Check.that("firstBottleIn() with one left", loft.firstBottleIn(), 0);
        loft.draw(1);
        Check.that("drawable()", loft.drawable(), 0);
        Check.that("firstBottleIn() with none left", loft.firstBottleIn() > 0 ? 1 : 0, 1);
    }

    private static void nothingChangesByAsking() {
        VinegarLoft asked = row(18, 60, 50, 40);
        VinegarLoft left = row(18, 60, 50, 40);
        for (int i = 0; i < 40; i++) {
            asked.firstBottleIn();
            Check.that("fill", asked.fill(30), left.fill(30));
            asked.firstBottleIn();
            Check.that("topUp", asked.topUp(), left.topUp());
            Check.that("year", asked.year(), left.year());
            asked.firstBottleIn();
            Check.that("years", asked.years(), left.years());
            Check.that("drawable", asked.drawable(), left.drawable());
            Check.that("draw", asked.draw(2), left.draw(2));
            Check.that("meanAge", asked.meanAge(), left.meanAge());
            Check.that("meanSugar", asked.meanSugar(), left.meanSugar());
            for (int b = 0; b < 3; b++) {
                Check.that("litresIn", asked.litresIn(b), left.litresIn(b));
                Check.that("ageOf", asked.ageOf(b), left.ageOf(b));
                Check.that("acidOf", asked.acidOf(b), left.acidOf(b));
                Check.that("sugarOf", asked.sugarOf(b), left.sugarOf(b));
            }
            for (int kind = 0; kind < 3; kind++) {
                Check.that("bottles", asked.bottles(kind), left.bottles(kind));
            }
        }
    }
}
