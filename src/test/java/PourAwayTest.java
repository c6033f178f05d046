/** Promise 7: pourAway. */
public final class PourAwayTest {
    public static void main(String[] args) {
        allIsPouredAway();
        theOthersStayAsTheyAre();
        wrongBarrels();
        eachBarrelByItsNumber();
        afterTheOldestAnotherIsTheOldest();
        Check.end();
    }

    private static void allIsPouredAway() {
        VinegarLoft loft = new VinegarLoft();
        loft.add(1, 70);
        Check.that("pourAway(0) of an empty one", loft.pourAway(0), 0.0);
        loft.fill(63);
        loft.year();
        double litres = loft.litresIn(0);
        Check.that("pourAway(0)", loft.pourAway(0), litres);
        Check.that("litresIn", loft.litresIn(0), 0.0);
        Check.that("ageOf", loft.ageOf(0), 0.0);
        Check.that("acidOf", loft.acidOf(0), 0.0);
        Check.that("sugarOf", loft.sugarOf(0), 0.0);
        Check.that("tasteOf", loft.tasteOf(0), 0.0);
        Check.that("oldest()", loft.oldest(), -1);
        Check.that("pourAway(0) again", loft.pourAway(0), 0.0);
        Check.that("barrels()", loft.barrels(), 1);
        Check.that("year()", loft.year(), 0.0);
        Check.that("fill(70)", loft.fill(70), 70.0);
        Check.that("sugarOf of new must", loft.sugarOf(0), 30.0);
    }

    private static void theOthersStayAsTheyAre() {
        VinegarLoft loft = new VinegarLoft();
        loft.add(1, 70);
        loft.add(2, 30);
        loft.fill(70);
        loft.topUp();
        loft.year();
        double litres = loft.litresIn(1);
        double sugar = loft.sugarOf(1);
        loft.pourAway(0);
        Check.that("litresIn(1)", loft.litresIn(1), litres);
        Check.that("sugarOf(1)", loft.sugarOf(1), sugar);
        Check.that("years()", loft.years(), 1);
        Check.that("pourAway(1)", loft.pourAway(1), litres);
    }

    private static void wrongBarrels() {
        VinegarLoft loft = new VinegarLoft();
        Check.throwing("pourAway(0) without barrels", IndexOutOfBoundsException.class, () -> loft.pourAway(0));
        loft.add(0, 50);
        loft.fill(50);
        for (int barrel : new int[] {-1, 1, 8, Integer.MIN_VALUE, Integer.MAX_VALUE}) {
            Check.throwing("pourAway(" + barrel + ")", IndexOutOfBoundsException.class,
                () -> loft.pourAway(barrel));
        }
        Check.that("litresIn(0) after wrong calls", loft.litresIn(0), 50.0);
    }

    private static void eachBarrelByItsNumber() {
        VinegarLoft loft = new VinegarLoft();
        for (int i = 0; i < 8; i++) {
            loft.add(i % 4, 50 - i);
        }
        for (int i = 0; i < 12; i++) {
            loft.fill(50);
            loft.topUp();
        }
        for (int i = 7; i >= 0; i--) {
            double litres = loft.litresIn(i);
            Check.holds("barrel " + i + " is not empty", litres > 0.0);
            Check.that("pourAway(" + i + ")", loft.pourAway(i), litres);
            Check.that("pourAway(" + i + ") again", loft.pourAway(i), 0.0);
            Check.that("oldest()", loft.oldest(), i - 1);
        }
    }

    /** The oldest barrel's share of the year is no other barrel's: the new oldest one gives nothing yet. */
    private static void afterTheOldestAnotherIsTheOldest() {
        VinegarLoft loft = new VinegarLoft();
        loft.add(1, 100);
        loft.add(1, 60);
        loft.fill(100);
        loft.topUp();
        for (int i = 0; i < 14; i++) {
            loft.year();
        }
        Check.that("oldest()", loft.oldest(), 1);
        Check.holds("there is something to draw", loft.drawable() > 0);
        loft.pourAway(1);
        Check.that("oldest() then", loft.oldest(), 0);
        Check.that("drawable() then", loft.drawable(), 0);
        Check.that("draw(1) then", loft.draw(1), 0);
        loft.pourAway(0);
        Check.that("oldest() of nothing", loft.oldest(), -1);
    }
}
