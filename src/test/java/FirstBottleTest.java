/** Promise 21: firstBottleIn. */
public final class FirstBottleTest {
    public static void main(String[] args) {
        withoutBarrels();
        itIsTheYearInWhichABottleCanBeDrawn();
        aBottleMayComeLate();
        theFirstBarrelIsFilledToTheBrim();
        oneBottleIsEnough();
        nothingChangesByAsking();
        noneNowAndNoneLater();
        oneBottleOfTheNextYearIsEnough();
        anotherOldestBarrelMeansNextYear();
        theWarmthStaysAsItIs();
        allAnswersStayAsTheyAre();
        Check.end();
    }

    private static void withoutBarrels() {
        VinegarLoft loft = new VinegarLoft();
        Check.that("without barrels", loft.firstBottleIn(), -1);
        Check.that("barrels()", loft.barrels(), 0);
    }

    /** Fills up, tops up and waits on the loft itself, up to 61 years; -1 beyond 60. */
    private static int livedThrough(VinegarLoft loft) {
        for (int i = 0; i <= 60; i++) {
            if (loft.drawable() > 0) {
                return i;
            }
            loft.fill(100);
            loft.topUp();
            loft.year();
        }
        return -1;
    }

    private static VinegarLoft row(int warmth, int... sizes) {
        VinegarLoft loft = new VinegarLoft();
        loft.setWarmth(warmth);
        for (int size : sizes) {
            loft.add(size % 4, size);
        }
        return loft;
    }

    private static void itIsTheYearInWhichABottleCanBeDrawn() {
        int[][] rows = {{50, 40, 30}, {100, 99, 98, 97, 96, 95, 94, 93}, {80, 40, 20, 10}, {100, 10}, {57, 41}};
        for (int[] sizes : rows) {
            for (int warmth = 0; warmth <= 40; warmth += 4) {
                int due = livedThrough(row(warmth, sizes));
                Check.that("firstBottleIn() of " + sizes.length + " barrels at " + warmth,
                    row(warmth, sizes).firstBottleIn(), due);
                VinegarLoft going = row(warmth, sizes);
                for (int i = 0; i < due; i++) {
                    Check.that("firstBottleIn() after " + i, going.firstBottleIn(), due - i);
                    going.fill(100);
                    going.topUp();
                    going.year();
                }
                Check.that("firstBottleIn() now", due < 0 ? 0 : going.firstBottleIn(), 0);
            }
        }
    }

    /**
     * In the cold the sugar comes back so slowly that the first bottle takes over fifty years.
     * A row that takes more than sixty was not found: -1 comes from a loft without barrels.
     */
    private static void aBottleMayComeLate() {
        int due = livedThrough(row(0, 100, 96, 92));
        Check.that("a late bottle", due > 50 ? 1 : 0, 1);
        Check.that("firstBottleIn() in the cold", row(0, 100, 96, 92).firstBottleIn(), due);
    }

    private static void theFirstBarrelIsFilledToTheBrim() {
        VinegarLoft asked = row(30, 100, 40);
        VinegarLoft lived = row(30, 100, 40);
        asked.fill(7);
        lived.fill(7);
        for (int i = 0; i < 5; i++) {
            asked.year();
            lived.year();
        }
        Check.that("firstBottleIn() of a nearly empty row", asked.firstBottleIn(), livedThrough(lived));
    }

    private static void oneBottleIsEnough() {
        VinegarLoft loft = row(18, 50);
        loft.fill(50);
        for (int i = 0; i < 15; i++) {
            loft.year();
        }
        Check.that("draw all but one", loft.draw(loft.drawable() - 1) > 0 ? 1 : 0, 1);
        Check.that("drawable()", loft.drawable(), 1);
        Check.that("firstBottleIn() with one left", loft.firstBottleIn(), 0);
        loft.draw(1);
        Check.that("drawable()", loft.drawable(), 0);
        Check.that("firstBottleIn() with none left", loft.firstBottleIn() > 0 ? 1 : 0, 1);
    }

    private static void nothingChangesByAsking() {
        VinegarLoft asked = row(18, 60, 50, 40);
        VinegarLoft left = row(18, 60, 50, 40);
        for (int i = 0; i < 18; i++) {
            asked.firstBottleIn();
            Check.that("fill", asked.fill(30), left.fill(30));
            asked.firstBottleIn();
            Check.that("topUp", asked.topUp(), left.topUp());
            Check.that("year", asked.year(), left.year());
            asked.firstBottleIn();
            Check.that("years", asked.years(), left.years());
            Check.that("drawable", asked.drawable(), left.drawable());
            Check.that("draw", asked.draw(2), left.draw(2));
            Check.that("meanAge", asked.meanAge(), left.meanAge());
            Check.that("meanSugar", asked.meanSugar(), left.meanSugar());
            for (int b = 0; b < 3; b++) {
                Check.that("litresIn", asked.litresIn(b), left.litresIn(b));
                Check.that("ageOf", asked.ageOf(b), left.ageOf(b));
                Check.that("acidOf", asked.acidOf(b), left.acidOf(b));
                Check.that("sugarOf", asked.sugarOf(b), left.sugarOf(b));
            }
            for (int kind = 0; kind < 3; kind++) {
                Check.that("bottles", asked.bottles(kind), left.bottles(kind));
            }
        }
        Check.holds("bottles were drawn", left.bottles(0) > 0);
    }

    /** Nothing comes into a row without a first barrel, however many years go by. */
    private static void noneNowAndNoneLater() {
        VinegarLoft loft = new VinegarLoft();
        for (int i = 0; i < 70; i++) {
            loft.year();
        }
        Check.that("without barrels, after 70 years", loft.firstBottleIn(), -1);
        loft.add(2, 10);
        Check.that("with one barrel", loft.firstBottleIn(), livedThrough(row(18, 10)));
    }

    /** A last barrel of 0.5 litres, its share of this year drawn: next year it gives one bottle. */
    private static void oneBottleOfTheNextYearIsEnough() {
        VinegarLoft loft = Hair.lastAlone(40, 80);
        double litres = loft.litresIn(Hair.LAST);
        Check.holds("about a litre", litres > 0.6 && litres < 1.2);
        int taken = loft.draw(1000);
        litres = litres - taken * 0.1;
        Check.holds("bottles were drawn", taken > 0);
        Check.that("drawable()", loft.drawable(), 0);
        double nextYear = 0.25 * (litres - litres * 0.02 * (1.0 + 0.05 * (40 - 18)));
        Check.that("bottles next year", (int) (nextYear / 0.1), 1);
        Check.that("firstBottleIn()", loft.firstBottleIn(), 1);
    }

    private static void anotherOldestBarrelMeansNextYear() {
        VinegarLoft loft = Hair.lastAlone(18, 20);
        Check.that("firstBottleIn() now", loft.firstBottleIn(), 0);
        loft.add(0, 97);
        loft.topUp();
        Check.that("oldest()", loft.oldest(), 3);
        Check.that("drawable()", loft.drawable(), 0);
        Check.that("firstBottleIn() from another", loft.firstBottleIn(), 1);
        loft.pourAway(3);
        Check.that("firstBottleIn() from the same again", loft.firstBottleIn(), 0);
    }

    private static void theWarmthStaysAsItIs() {
        for (int warmth : new int[] {0, 2, 18, 40}) {
            VinegarLoft loft = row(warmth, 80, 60);
            Check.that("firstBottleIn() at " + warmth, loft.firstBottleIn(), livedThrough(row(warmth, 80, 60)));
            loft.fill(80);
            double draught = warmth < 3 ? 0.2 : 1.0 + 0.05 * (warmth - 18);
            Check.that("year() at " + warmth, loft.year(), 80.0 * 0.02 * draught);
        }
    }

    private static void allAnswersStayAsTheyAre() {
        VinegarLoft loft = Answers.wellUsed();
        for (int i = 0; i < 6; i++) {
            String before = Answers.of(loft);
            int due = loft.firstBottleIn();
            Check.that("answers after asking", Answers.of(loft), before);
            Check.that("asked again", loft.firstBottleIn(), due);
            if (i % 3 == 0) {
                loft.year();
            } else if (i % 3 == 1) {
                loft.draw(2);
            } else {
                loft.topUp();
            }
        }
        VinegarLoft bare = new VinegarLoft();
        bare.firstBottleIn();
        Check.that("a bare loft", Answers.of(bare), Answers.of(new VinegarLoft()));
    }
}
