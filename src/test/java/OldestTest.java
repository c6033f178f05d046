/** Promise 15: oldest. */
public final class OldestTest {
    public static void main(String[] args) {
        emptyOnesDoNotCount();
        ofSeveralTheLastOne();
        theGreatestAge();
        Check.end();
    }

    private static void emptyOnesDoNotCount() {
        VinegarLoft loft = new VinegarLoft();
        Check.that("without barrels", loft.oldest(), -1);
        loft.add(0, 50);
        loft.add(0, 40);
        Check.that("all empty", loft.oldest(), -1);
        loft.fill(50);
        Check.that("the second one is empty", loft.oldest(), 0);
        loft.pourAway(0);
        Check.that("all empty again", loft.oldest(), -1);
    }

    private static void ofSeveralTheLastOne() {
        VinegarLoft loft = new VinegarLoft();
        loft.add(0, 64);
        loft.add(0, 63);
        loft.add(0, 62);
        loft.fill(64);
        loft.topUp();
        Check.that("two of age 0.0", loft.oldest(), 1);
        loft.topUp();
        Check.that("three of age 0.0", loft.oldest(), 2);
        loft.year();
        Check.that("three of age 1.0", loft.oldest(), 2);
        loft.pourAway(2);
        Check.that("two of age 1.0", loft.oldest(), 1);
    }

    private static void theGreatestAge() {
        VinegarLoft loft = new VinegarLoft();
        loft.add(0, 64);
        loft.add(0, 20);
        loft.fill(64);
        loft.topUp();
        loft.year();
        loft.fill(100);
        Check.that("the first one is younger", loft.oldest(), 1);
        loft.pourAway(1);
        loft.topUp();
        loft.pourAway(0);
        loft.fill(64);
        loft.year();
        Check.that("the second one is older", loft.oldest(), 1);
        VinegarLoft mixed = new VinegarLoft();
        mixed.add(0, 100);
        mixed.add(0, 90);
        mixed.add(0, 80);
        mixed.fill(100);
        mixed.topUp();
        mixed.topUp();
        mixed.pourAway(1);
        mixed.year();
        mixed.year();
        mixed.pourAway(0);
        mixed.fill(100);
        mixed.topUp();
        Check.that("of new must and old vinegar", mixed.oldest(), 2);
        mixed.pourAway(2);
        Check.that("of must alone", mixed.oldest(), 1);
        mixed.year();
        mixed.fill(100);
        mixed.topUp();
        Check.that("the middle one is the oldest", mixed.ageOf(1) > mixed.ageOf(0) ? 1 : 0, 1);
    }
}
