/** Promise 7: pourAway. */
public final class PourAwayTest {
    public static void main(String[] args) {
        allIsPouredAway();
        theOthersStayAsTheyAre();
        wrongBarrels();
        Check.end();
    }

    private static void allIsPouredAway() {
        VinegarLoft loft = new VinegarLoft();
        loft.add(1, 70);
        Check.that("pourAway(0) of an empty one", loft.pourAway(0), 0.0);
        loft.fill(63);
        loft.year();
        double litres = loft.litresIn(0);
        Check.that("pourAway(0)", loft.pourAway(0), litres);
        Check.that("litresIn", loft.litresIn(0), 0.0);
        Check.that("ageOf", loft.ageOf(0), 0.0);
        Check.that("acidOf", loft.acidOf(0), 0.0);
        Check.that("sugarOf", loft.sugarOf(0), 0.0);
        Check.that("tasteOf", loft.tasteOf(0), 0.0);
        Check.that("oldest()", loft.oldest(), -1);
        Check.that("pourAway(0) again", loft.pourAway(0), 0.0);
        Check.that("barrels()", loft.barrels(), 1);
        Check.that("year()", loft.year(), 0.0);
        Check.that("fill(70)", loft.fill(70), 70.0);
        Check.that("sugarOf of new must", loft.sugarOf(0), 30.0);
    }

    private static void theOthersStayAsTheyAre() {
        VinegarLoft loft = new VinegarLoft();
        loft.add(1, 70);
        loft.add(2, 30);
        loft.fill(70);
        loft.topUp();
        loft.year();
        double litres = loft.litresIn(1);
        double sugar = loft.sugarOf(1);
        loft.pourAway(0);
        Check.that("litresIn(1)", loft.litresIn(1), litres);
        Check.that("sugarOf(1)", loft.sugarOf(1), sugar);
        Check.that("years()", loft.years(), 1);
        Check.that("pourAway(1)", loft.pourAway(1), litres);
    }

    private static void wrongBarrels() {
        VinegarLoft loft = new VinegarLoft();
        Check.throwing("pourAway(0) without barrels", IndexOutOfBoundsException.class, () -> loft.pourAway(0));
        loft.add(0, 50);
        loft.fill(50);
        for (int barrel : new int[] {-1, 1, 8, Integer.MIN_VALUE, Integer.MAX_VALUE}) {
            Check.throwing("pourAway(" + barrel + ")", IndexOutOfBoundsException.class,
                () -> loft.pourAway(barrel));
        }
        Check.that("litresIn(0) after wrong calls", loft.litresIn(0), 50.0);
    }
}
