/** Promise 15: oldest. */
public final class OldestTest {
    public static void main(String[] args) {
        emptyOnesDoNotCount();
        ofSeveralTheLastOne();
        theGreatestAge();
        eachPlaceInTheRow();
        olderByALastBit();
        anEmptyOneBehindMustDoesNotCount();
        Check.end();
    }

    private static void emptyOnesDoNotCount() {
        VinegarLoft loft = new VinegarLoft();
        Check.that("without barrels", loft.oldest(), -1);
        loft.add(0, 50);
        loft.add(0, 40);
        Check.that("all empty", loft.oldest(), -1);
        loft.fill(50);
        Check.that("the second one is empty", loft.oldest(), 0);
        loft.pourAway(0);
        Check.that("all empty again", loft.oldest(), -1);
    }

    private static void ofSeveralTheLastOne() {
        VinegarLoft loft = new VinegarLoft();
        loft.add(0, 64);
        loft.add(0, 63);
        loft.add(0, 62);
        loft.fill(64);
        loft.topUp();
        Check.that("two of age 0.0", loft.oldest(), 1);
        loft.topUp();
        Check.that("three of age 0.0", loft.oldest(), 2);
        loft.year();
        Check.that("three of age 1.0", loft.oldest(), 2);
        loft.pourAway(2);
        Check.that("two of age 1.0", loft.oldest(), 1);
    }

    private static void theGreatestAge() {
        VinegarLoft loft = new VinegarLoft();
        loft.add(0, 64);
        loft.add(0, 20);
        loft.fill(64);
        loft.topUp();
        loft.year();
        loft.fill(100);
        Check.that("the first one is younger", loft.oldest(), 1);
        loft.pourAway(1);
        loft.topUp();
        loft.pourAway(0);
        loft.fill(64);
        loft.year();
        Check.that("the second one is older", loft.oldest(), 1);
        VinegarLoft mixed = new VinegarLoft();
        mixed.add(0, 100);
        mixed.add(0, 90);
        mixed.add(0, 80);
        mixed.fill(100);
        mixed.topUp();
        mixed.topUp();
        mixed.pourAway(1);
        mixed.year();
        mixed.year();
        mixed.pourAway(0);
        mixed.fill(100);
        mixed.topUp();
        Check.that("of new must and old vinegar", mixed.oldest(), 2);
        mixed.pourAway(2);
        Check.that("of must alone", mixed.oldest(), 1);
        mixed.year();
        mixed.fill(100);
        mixed.topUp();
        Check.that("the middle one is the oldest", mixed.ageOf(1) > mixed.ageOf(0) ? 1 : 0, 1);
    }

    /** Three ages of must, the first, the middle or the last barrel being the oldest one. */
    private static void eachPlaceInTheRow() {
        VinegarLoft first = new VinegarLoft();
        first.add(0, 100);
        first.add(0, 90);
        first.fill(100);
        first.topUp();
        first.year();
        first.pourAway(0);
        first.fill(100);
        first.topUp();
        Check.holds("mixed: 0 is younger", first.ageOf(1) > first.ageOf(0));
        Check.that("the last one", first.oldest(), 1);

        VinegarLoft middle = new VinegarLoft();
        middle.add(0, 100);
        middle.add(0, 50);
        middle.add(0, 20);
        middle.fill(10);
        middle.topUp();
        middle.topUp();
        Check.holds("all have must", middle.litresIn(2) > 0.0);
        for (int i = 0; i < 4; i++) {
            middle.year();
        }
        middle.pourAway(2);
        middle.pourAway(0);
        middle.fill(100);
        middle.topUp();
        Check.holds("the middle one is between",
            middle.ageOf(2) > middle.ageOf(1) && middle.ageOf(1) > middle.ageOf(0));
        Check.that("the last one of three", middle.oldest(), 2);
        middle.pourAway(2);
        Check.that("the middle one", middle.oldest(), 1);
        middle.pourAway(1);
        Check.that("the first one", middle.oldest(), 0);
    }

    /** Must has the age 0.0 as an empty barrel has: that one does not count for all that. */
    private static void anEmptyOneBehindMustDoesNotCount() {
        VinegarLoft loft = new VinegarLoft();
        loft.add(0, 100);
        loft.add(0, 90);
        loft.add(0, 80);
        loft.fill(100);
        Check.that("two empty ones behind must", loft.oldest(), 0);
        loft.topUp();
        Check.that("one empty one behind must", loft.oldest(), 1);
        loft.pourAway(0);
        Check.that("an empty one on either side", loft.oldest(), 1);
    }

    /** Mixing into an empty barrel may round the age down by a last bit: then the barrel ahead is the oldest one. */
    private static void olderByALastBit() {
        int ahead = 0;
        int behind = 0;
        for (int size = 11; size < 100; size++) {
            VinegarLoft loft = new VinegarLoft();
            loft.add(0, 100);
            loft.add(1, size);
            loft.fill(70);
            for (int i = 0; i < 7; i++) {
                loft.year();
            }
            loft.fill(9);
            loft.topUp();
            boolean older = loft.ageOf(0) > loft.ageOf(1);
            Check.that("oldest() of size " + size, loft.oldest(), older ? 0 : 1);
            ahead += older ? 1 : 0;
            behind += older ? 0 : 1;
        }
        Check.holds("both were met", ahead > 0 && behind > 0);
    }
}
