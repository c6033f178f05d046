/** The bounds of the chapter 'Terms', each met to the last bit and by a hair on either side of it. */
public final class BoundsTest {
    public static void main(String[] args) {
        atTwelveYearsAndAHairBelow();
        atEighteenYearsAndAHairBelow();
        atTwentyFiveYearsAndAHairBelow();
        sugarOfTwentyFiveToTheLastBit();
        sugarAHairAboveAndBelowTwentyFive();
        acidOfEightToTheLastBit();
        acidAHairAboveAndBelowEight();
        sugarAHairAroundSeventy();
        sugarIsHeldBeforeItShrinks();
        acidIsHeldAtTwelve();
        acidAHairAroundTwelve();
        theTasteAHairAroundAcidOfSix();
        aHairIsMixedByTheFormula();
        aHairIsNotEmpty();
        Check.end();
    }

    private static double mixed(double v, double x, double w, double y) {
        return (v * x + w * y) / (v + w);
    }

    private static void atTwelveYearsAndAHairBelow() {
        VinegarLoft loft = Hair.lastAlone(40, 12);
        Check.that("ageOf", loft.ageOf(Hair.LAST), 12.0);
        int ready = (int) (0.25 * loft.litresIn(Hair.LAST) / 0.1);
        Check.that("drawable() at 12.0", loft.drawable(), ready);
        Check.that("draw(1) at 12.0", loft.draw(1), 1);
        Hair.addAHairOfMust(loft);
        Check.holds("a hair below 12.0", loft.ageOf(Hair.LAST) < 12.0 && loft.ageOf(Hair.LAST) > 11.99999999999);
        Check.that("oldest()", loft.oldest(), Hair.LAST);
        Check.that("drawable() a hair below 12.0", loft.drawable(), 0);
        Check.that("draw(1) a hair below 12.0", loft.draw(1), 0);
        Check.that("bottles(YOUNG)", loft.bottles(VinegarLoft.YOUNG), 1);
    }

    private static void atEighteenYearsAndAHairBelow() {
        VinegarLoft loft = Hair.lastAlone(40, 18);
        Check.that("ageOf", loft.ageOf(Hair.LAST), 18.0);
        Check.that("draw(2) at 18.0", loft.draw(2), 2);
        Check.that("ripe at 18.0", loft.bottles(VinegarLoft.RIPE), 2);
        Check.that("young at 18.0", loft.bottles(VinegarLoft.YOUNG), 0);
        Hair.addAHairOfMust(loft);
        Check.holds("a hair below 18.0", loft.ageOf(Hair.LAST) < 18.0 && loft.ageOf(Hair.LAST) > 17.99999999999);
        Check.that("draw(3) a hair below 18.0", loft.draw(3), 3);
        Check.that("ripe", loft.bottles(VinegarLoft.RIPE), 2);
        Check.that("young", loft.bottles(VinegarLoft.YOUNG), 3);
        Check.that("old", loft.bottles(VinegarLoft.OLD), 0);
    }

    private static void atTwentyFiveYearsAndAHairBelow() {
        VinegarLoft loft = Hair.lastAlone(40, 25);
        Check.that("ageOf", loft.ageOf(Hair.LAST), 25.0);
        Check.that("draw(2) at 25.0", loft.draw(2), 2);
        Check.that("old at 25.0", loft.bottles(VinegarLoft.OLD), 2);
        Check.that("ripe at 25.0", loft.bottles(VinegarLoft.RIPE), 0);
        Hair.addAHairOfMust(loft);
        Check.holds("a hair below 25.0", loft.ageOf(Hair.LAST) < 25.0 && loft.ageOf(Hair.LAST) > 24.9999999999);
        Check.that("draw(3) a hair below 25.0", loft.draw(3), 3);
        Check.that("old", loft.bottles(VinegarLoft.OLD), 2);
        Check.that("ripe", loft.bottles(VinegarLoft.RIPE), 3);
        Check.that("young", loft.bottles(VinegarLoft.YOUNG), 0);
    }

    /** After 25 cold years the sugar is below 25.0; must brings it there, and the age stays above 12.0. */
    private static void sugarOfTwentyFiveToTheLastBit() {
        VinegarLoft before = Hair.lastAlone(0, 25);
        Check.holds("the sugar is below 25.0", before.sugarOf(Hair.LAST) < 25.0);
        Check.that("drawable() below 25.0", before.drawable(), 0);
        int ready = (int) (0.25 * before.litresIn(Hair.LAST) / 0.1);
        VinegarLoft loft = Hair.lastNear(0, 25, Hair.SUGAR, 25.0);
        Check.that("sugarOf", loft.sugarOf(Hair.LAST), 25.0);
        Check.holds("old enough", loft.ageOf(Hair.LAST) >= 12.0);
        Check.that("drawable() at 25.0", loft.drawable(), ready);
        Check.that("draw(1) at 25.0", loft.draw(1), 1);
    }

    private static void sugarAHairAboveAndBelowTwentyFive() {
        int ready = (int) (0.25 * Hair.lastAlone(0, 25).litresIn(Hair.LAST) / 0.1);
        VinegarLoft loft = Hair.lastNear(0, 25, Hair.SUGAR, 24.999999999999);
        Check.holds("below 25.0", loft.sugarOf(Hair.LAST) < 25.0 && loft.sugarOf(Hair.LAST) > 24.9999999999);
        Check.that("drawable() a hair below 25.0", loft.drawable(), 0);
        Check.that("draw(1) a hair below 25.0", loft.draw(1), 0);
        for (int i = 0; i < 3 && loft.sugarOf(Hair.LAST) <= 25.0; i++) {
            Hair.addAHairOfMust(loft);
        }
        Check.holds("a hair above", loft.sugarOf(Hair.LAST) > 25.0 && loft.sugarOf(Hair.LAST) < 25.0000000001);
        Check.that("drawable() a hair above 25.0", loft.drawable(), ready);
    }

    /** The acid is not below 8.0 when it is 8.0: it grows by 0.1 then, and the sugar does not shrink. */
    private static void acidOfEightToTheLastBit() {
        VinegarLoft loft = Hair.lastNear(18, 20, Hair.ACID, 8.0);
        Check.that("acidOf", loft.acidOf(Hair.LAST), 8.0);
        double litres = loft.litresIn(Hair.LAST);
        double sugar = loft.sugarOf(Hair.LAST);
        loft.year();
        Check.that("acidOf after a year", loft.acidOf(Hair.LAST), 8.0 + 0.1);
        Check.that("sugarOf after a year", loft.sugarOf(Hair.LAST), sugar * litres / loft.litresIn(Hair.LAST));
    }

    private static void acidAHairAboveAndBelowEight() {
        VinegarLoft above = Hair.lastNear(18, 20, Hair.ACID, 8.00000000001);
        double acid = above.acidOf(Hair.LAST);
        Check.holds("a hair above 8.0", acid > 8.0 && acid < 8.0000000001);
        above.year();
        Check.that("acidOf from a hair above 8.0", above.acidOf(Hair.LAST), acid + 0.1);

        VinegarLoft below = Hair.lastNear(18, 20, Hair.ACID, 8.0);
        Hair.addAHairOfMust(below);
        acid = below.acidOf(Hair.LAST);
        double sugar = below.sugarOf(Hair.LAST);
        double litres = below.litresIn(Hair.LAST);
        Check.holds("a hair below 8.0", acid < 8.0 && acid > 7.9999999999);
        below.year();
        Check.that("acidOf from a hair below 8.0", below.acidOf(Hair.LAST), acid + 0.6);
        Check.that("sugarOf from a hair below 8.0", below.sugarOf(Hair.LAST),
            sugar * litres / below.litresIn(Hair.LAST) - 0.8);
    }

    /** At 18 degrees oak keeps 0.98 of its litres: 68.6 becomes 70.0 then. */
    private static void sugarAHairAroundSeventy() {
        VinegarLoft above = Hair.lastNear(40, 26, Hair.SUGAR, 68.60000000001);
        double sugar = thickenedAtEighteen(above);
        Check.holds("a hair above 70.0", sugar > 70.0 && sugar < 70.0000000001);
        Check.that("sugarOf of a hair above 70.0", above.sugarOf(Hair.LAST), 70.0);

        VinegarLoft below = Hair.lastNear(40, 26, Hair.SUGAR, 68.59999999999);
        sugar = thickenedAtEighteen(below);
        Check.holds("a hair below 70.0", sugar < 70.0 && sugar > 69.9999999999);
        Check.that("sugarOf of a hair below 70.0", below.sugarOf(Hair.LAST), sugar);
    }

    /** Lets a year go by and answers what the sugar becomes if nothing holds it. */
    private static double thickenedAtEighteen(VinegarLoft loft) {
        double litres = loft.litresIn(Hair.LAST);
        double sugar = loft.sugarOf(Hair.LAST);
        Check.holds("too sour to lose sugar", loft.acidOf(Hair.LAST) >= 8.0);
        loft.setWarmth(18);
        loft.year();
        return sugar * litres / loft.litresIn(Hair.LAST);
    }

    /** Some must into thick vinegar brings the acid below 8.0: the sugar is 70.0 first, and then 0.8 less. */
    private static void sugarIsHeldBeforeItShrinks() {
        VinegarLoft loft = new VinegarLoft();
        loft.add(2, 100);
        loft.fill(100);
        loft.setWarmth(40);
        for (int i = 0; i < 15; i++) {
            loft.year();
        }
        loft.fill(3);
        double litres = loft.litresIn(0);
        double sugar = loft.sugarOf(0);
        double acid = loft.acidOf(0);
        Check.holds("sour below 8.0", acid < 8.0);
        loft.year();
        Check.holds("thicker than 70.8", sugar * litres / loft.litresIn(0) > 70.8);
        Check.that("sugarOf", loft.sugarOf(0), 70.0 - 0.8);
        Check.that("acidOf", loft.acidOf(0), acid + 0.6);
    }

    private static void acidIsHeldAtTwelve() {
        VinegarLoft loft = Hair.lastAlone(18, 49);
        double acid = loft.acidOf(Hair.LAST);
        Check.holds("the last step below 12.0", acid < 12.0 && acid + 0.1 < 12.0);
        loft.year();
        Check.that("acidOf below 12.0", loft.acidOf(Hair.LAST), acid + 0.1);
        Check.holds("the next step goes beyond", acid + 0.1 + 0.1 > 12.0);
        for (int i = 0; i < 5; i++) {
            loft.year();
            Check.that("acidOf at its most", loft.acidOf(Hair.LAST), 12.0);
        }
    }

    /** 0.0 litres are not mixed in; a hair of them is, into each value by itself. */
    private static void aHairIsMixedByTheFormula() {
        VinegarLoft loft = Hair.lastAlone(18, 7);
        double v = loft.litresIn(Hair.LAST);
        double age = loft.ageOf(Hair.LAST);
        double acid = loft.acidOf(Hair.LAST);
        double sugar = loft.sugarOf(Hair.LAST);
        Hair.addAHairOfMust(loft);
        double w = 1.0;
        for (int i = 0; i < 38; i++) {
            w = w / 2.0;
        }
        Check.that("litresIn", loft.litresIn(Hair.LAST), v + w);
        Check.that("ageOf", loft.ageOf(Hair.LAST), mixed(v, age, w, 0.0));
        Check.that("acidOf", loft.acidOf(Hair.LAST), mixed(v, acid, w, 1.0));
        Check.that("sugarOf", loft.sugarOf(Hair.LAST), mixed(v, sugar, w, 30.0));
        Check.holds("a hair is to be seen", loft.ageOf(Hair.LAST) != age && loft.sugarOf(Hair.LAST) != sugar);
    }

    private static void aHairIsNotEmpty() {
        VinegarLoft loft = new VinegarLoft();
        loft.add(0, 100);
        loft.add(0, 99);
        loft.fill(1);
        double litres = 1.0;
        for (int i = 0; i < 50; i++) {
            loft.topUp();
            loft.pourAway(1);
            litres = litres / 2.0;
        }
        Check.that("litresIn of a hair", loft.litresIn(0), litres);
        Check.that("sugarOf a hair", loft.sugarOf(0), 30.0);
        Check.that("acidOf a hair", loft.acidOf(0), 1.0);
        Check.that("tasteOf a hair", loft.tasteOf(0), 0.5 * 0.0 + 0.8 * 30.0 - 3.0 * 5.0);
        Check.that("oldest() of a hair", loft.oldest(), 0);
        Check.that("meanSugar() of a hair", loft.meanSugar(), 30.0);
        Check.that("year() of a hair", loft.year(), litres * 0.02 * 1.0);
        Check.that("ageOf a hair", loft.ageOf(0), 1.0);
        Check.that("meanAge() of a hair", loft.meanAge(), 1.0);
        double left = litres - litres * 0.02 * 1.0;
        Check.that("topUp() of a hair", loft.topUp(), 0.5 * left);
        Check.that("pourAway(0) of a hair", loft.pourAway(0), left - 0.5 * left);
        Check.that("oldest() then", loft.oldest(), 1);
    }

    private static void acidAHairAroundTwelve() {
        for (double bound : new double[] {11.90000000001, 11.89999999999}) {
            VinegarLoft loft = Hair.lastNear(18, 52, Hair.ACID, bound);
            double grown = loft.acidOf(Hair.LAST) + 0.1;
            Check.holds("a hair around 12.0", grown != 12.0 && grown > 11.9999999999 && grown < 12.0000000001);
            loft.year();
            Check.that("acidOf around 12.0", loft.acidOf(Hair.LAST), grown > 12.0 ? 12.0 : grown);
        }
    }

    /** The size of the difference counts, above 6.0 as below it. */
    private static void theTasteAHairAroundAcidOfSix() {
        for (double bound : new double[] {6.05, 6.00000000001, 6.0, 5.99999999999, 5.95}) {
            VinegarLoft loft = Hair.lastNear(18, 10, Hair.ACID, bound);
            double acid = loft.acidOf(Hair.LAST);
            Check.holds("near " + bound, acid - bound < 1e-10 && acid - bound >= 0.0);
            double apart = acid > 6.0 ? acid - 6.0 : 6.0 - acid;
            Check.that("tasteOf at " + bound, loft.tasteOf(Hair.LAST),
                0.5 * loft.ageOf(Hair.LAST) + 0.8 * loft.sugarOf(Hair.LAST) - 3.0 * apart);
        }
    }
}
