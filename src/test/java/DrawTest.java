/** Promises 6, 16 and 17: draw, drawable and bottles. */
public final class DrawTest {
    public static void main(String[] args) {
        aQuarterMayBeDrawnInAYear();
        nothingBelowTwelveYears();
        nothingBelowTwentyFiveSugar();
        bottlesAreCountedByAge();
        anotherOldestBarrelGivesNothing();
        theLesserOfBothCounts();
        pouringLeavesWhatMayBeDrawn();
        aBarrelDrawnEmptyHasZeros();
        byRoundingAHairLessIsEmptyToo();
        byRoundingAHairMoreIsNotEmpty();
        wrongBottlesAndKinds();
        exactlyAsManyAsThereAreAndOneMore();
        oneAndAThousandMayBeAskedFor();
        beforeAnyYearThereIsNothing();
        whatIsLeftOfAYearIsNotAddedToTheNext();
        withoutWhatIsBehindThePoint();
        aQuarterOnTheBottle();
        theAgeBeforeTheLastBottleCounts();
        anEmptyRowGivesNothing();
        ofSeveralOldestTheLastOneIsDrawnFrom();
        whatIsFilledInLaterMayNotBeDrawn();
        Check.end();
    }

    private static VinegarLoft aged(int wood, int size, int years) {
        VinegarLoft loft = new VinegarLoft();
        loft.add(wood, size);
        loft.fill(size);
        for (int i = 0; i < years; i++) {
            loft.year();
        }
        return loft;
    }

    private static void aQuarterMayBeDrawnInAYear() {
        VinegarLoft loft = aged(1, 90, 12);
        double litres = loft.litresIn(0);
        double may = 0.25 * litres;
        Check.that("drawable()", loft.drawable(), (int) (may / 0.1));
        Check.that("draw(1)", loft.draw(1), 1);
        may = may - 1 * 0.1;
        litres = litres - 1 * 0.1;
        Check.that("litresIn", loft.litresIn(0), litres);
        Check.that("drawable()", loft.drawable(), (int) (may / 0.1));
        Check.that("draw(13)", loft.draw(13), 13);
        may = may - 13 * 0.1;
        litres = litres - 13 * 0.1;
        Check.that("litresIn", loft.litresIn(0), litres);
        int rest = (int) (may / 0.1);
        Check.that("drawable()", loft.drawable(), rest);
        Check.that("draw(1000)", loft.draw(1000), rest);
        Check.that("litresIn", loft.litresIn(0), litres - rest * 0.1);
        Check.that("drawable()", loft.drawable(), 0);
        Check.that("draw(1)", loft.draw(1), 0);
        Check.that("bottles(YOUNG)", loft.bottles(VinegarLoft.YOUNG), 14 + rest);
        double age = loft.ageOf(0);
        Check.that("age", age, 12.0);
        loft.year();
        Check.that("drawable() next year", loft.drawable(), (int) (0.25 * loft.litresIn(0) / 0.1));
    }

    private static void nothingBelowTwelveYears() {
        VinegarLoft loft = aged(1, 90, 0);
        Check.that("drawable() before any year", loft.drawable(), 0);
        for (int i = 1; i < 12; i++) {
            loft.year();
            Check.that("drawable() at " + i, loft.drawable(), 0);
            Check.that("draw(5) at " + i, loft.draw(5), 0);
        }
        loft.year();
        Check.that("drawable() at 12", loft.drawable() > 0 ? 1 : 0, 1);
        loft.fill(1);
        Check.that("drawable() below 12", loft.drawable(), 0);
    }

    /** In the cold the sugar goes down: below 25.0 nothing may be drawn, whatever the age. */
    private static void nothingBelowTwentyFiveSugar() {
        VinegarLoft loft = new VinegarLoft();
        loft.add(0, 100);
        loft.fill(100);
        loft.setWarmth(0);
        for (int i = 0; i < 20; i++) {
            loft.year();
        }
        Check.that("sugar is thin", loft.sugarOf(0) < 25.0 ? 1 : 0, 1);
        Check.that("drawable()", loft.drawable(), 0);
        loft.setWarmth(40);
        while (loft.sugarOf(0) < 25.0) {
            Check.that("drawable() while thin", loft.drawable(), 0);
            Check.that("draw(1) while thin", loft.draw(1), 0);
            loft.year();
        }
        Check.that("drawable() when thick", loft.drawable(), (int) (0.25 * loft.litresIn(0) / 0.1));
    }

    private static void bottlesAreCountedByAge() {
        VinegarLoft loft = aged(1, 100, 11);
        int[] due = new int[3];
        for (int age = 12; age < 30; age++) {
            loft.year();
            due[age < 18 ? 0 : age < 25 ? 1 : 2] += loft.draw(age - 10);
            for (int kind = 0; kind < 3; kind++) {
                Check.that("bottles(" + kind + ") at " + age, loft.bottles(kind), due[kind]);
            }
        }
        Check.that("young", due[0], 2 + 3 + 4 + 5 + 6 + 7);
        Check.that("ripe", due[1], 8 + 9 + 10 + 11 + 12 + 13 + 14);
        Check.that("old", due[2], 15 + 16 + 17 + 18 + 19);
    }

    private static void anotherOldestBarrelGivesNothing() {
        VinegarLoft loft = aged(0, 100, 13);
        int ready = loft.drawable();
        Check.that("drawable()", ready, (int) (0.25 * loft.litresIn(0) / 0.1));
        loft.add(0, 50);
        loft.topUp();
        Check.that("oldest()", loft.oldest(), 1);
        Check.that("drawable() from another", loft.drawable(), 0);
        Check.that("draw(1) from another", loft.draw(1), 0);
        loft.pourAway(1);
        Check.that("oldest() again", loft.oldest(), 0);
        Check.that("drawable() again", loft.drawable(), ready);
    }

    private static void theLesserOfBothCounts() {
        VinegarLoft loft = aged(0, 100, 13);
        loft.add(0, 99);
        for (int i = 0; i < 3; i++) {
            loft.topUp();
            loft.pourAway(1);
        }
        double litres = loft.litresIn(0);
        int ready = (int) (litres / 0.1);
        Check.that("drawable() of what is left", loft.drawable(), ready);
        Check.that("draw(1000)", loft.draw(1000), ready);
        double left = litres - ready * 0.1;
        Check.that("litresIn", loft.litresIn(0), left);
    }

    /** What may be drawn is told at the year's end; what is poured away later does not change it. */
    private static void pouringLeavesWhatMayBeDrawn() {
        VinegarLoft loft = new VinegarLoft();
        loft.add(0, 100);
        loft.add(0, 30);
        loft.fill(100);
        loft.topUp();
        for (int i = 0; i < 15; i++) {
            loft.year();
        }
        double may = 0.25 * loft.litresIn(1);
        Check.that("drawable()", loft.drawable(), (int) (may / 0.1));
        loft.draw(4);
        may = may - 4 * 0.1;
        loft.pourAway(1);
        Check.that("drawable() after pourAway", loft.drawable(), 0);
        loft.topUp();
        Check.that("oldest()", loft.oldest(), 1);
        Check.that("drawable() after topUp", loft.drawable(), (int) (may / 0.1));
    }

    /** Two old barrels; the second one may give more than the 5.0 litres that it holds: 80.0 halved four times. */
    private static VinegarLoft withFiveOldLitres() {
        VinegarLoft loft = new VinegarLoft();
        loft.add(0, 80);
        loft.add(0, 79);
        loft.fill(80);
        loft.topUp();
        for (int i = 0; i < 64; i++) {
            loft.fill(40);
            loft.topUp();
            loft.year();
        }
        loft.setWarmth(40);
        for (int i = 0; i < 12; i++) {
            loft.year();
        }
        loft.fill(100);
        for (int i = 0; i < 4; i++) {
            loft.pourAway(1);
            loft.topUp();
        }
        Check.that("litresIn(1)", loft.litresIn(1), 5.0);
        Check.that("oldest()", loft.oldest(), 1);
        Check.that("drawable()", loft.drawable(), 50);
        return loft;
    }

    private static void aBarrelDrawnEmptyHasZeros() {
        VinegarLoft loft = withFiveOldLitres();
        int kind = loft.ageOf(1) < 18.0 ? 0 : loft.ageOf(1) < 25.0 ? 1 : 2;
        Check.that("draw(51)", loft.draw(51), 50);
        Check.that("bottles", loft.bottles(kind), 50);
        secondBarrelIsEmpty("drawn to nothing", loft);
        Check.that("50 bottles make 5.0", 5.0 - 50 * 0.1, 0.0);
    }

    private static void byRoundingAHairLessIsEmptyToo() {
        VinegarLoft loft = withFiveOldLitres();
        Check.that("draw(11)", loft.draw(11), 11);
        double left = 5.0 - 11 * 0.1;
        Check.that("litresIn(1)", loft.litresIn(1), left);
        Check.that("less than nothing would be left", left - 39 * 0.1 < 0.0 ? 1 : 0, 1);
        Check.that("draw(1000)", loft.draw(1000), 39);
        secondBarrelIsEmpty("drawn to a hair less", loft);
    }

    private static void byRoundingAHairMoreIsNotEmpty() {
        VinegarLoft loft = withFiveOldLitres();
        double left = 5.0;
        for (int i = 0; i < 50 && loft.drawable() > 0; i++) {
            Check.that("draw(1)", loft.draw(1), 1);
            left = left - 1 * 0.1;
            Check.that("litresIn(1)", loft.litresIn(1), left);
        }
        Check.that("a hair is left", left > 0.0 && loft.oldest() == 1 ? 1 : 0, 1);
        Check.that("drawable() of a hair", loft.drawable(), (int) (left / 0.1));
        loft.pourAway(1);
        secondBarrelIsEmpty("poured away", loft);
    }

    private static void secondBarrelIsEmpty(String how, VinegarLoft loft) {
        Check.that("litresIn(1) " + how, loft.litresIn(1), 0.0);
        Check.that("ageOf(1) " + how, loft.ageOf(1), 0.0);
        Check.that("acidOf(1) " + how, loft.acidOf(1), 0.0);
        Check.that("sugarOf(1) " + how, loft.sugarOf(1), 0.0);
        Check.that("tasteOf(1) " + how, loft.tasteOf(1), 0.0);
        Check.that("oldest() " + how, loft.oldest(), 0);
        Check.that("drawable() " + how, loft.drawable(), 0);
    }

    private static void wrongBottlesAndKinds() {
        VinegarLoft loft = aged(1, 100, 12);
        int ready = loft.drawable();
        for (int bottles : new int[] {0, -1, 1001, Integer.MIN_VALUE, Integer.MAX_VALUE}) {
            Check.throwing("draw(" + bottles + ")", IllegalArgumentException.class, () -> loft.draw(bottles));
            Check.throwing("draw(" + bottles + ") in a bare loft", IllegalArgumentException.class,
                () -> new VinegarLoft().draw(bottles));
        }
        for (int kind : new int[] {-1, 3, Integer.MIN_VALUE, Integer.MAX_VALUE}) {
            Check.throwing("bottles(" + kind + ")", IllegalArgumentException.class, () -> loft.bottles(kind));
        }
        Check.that("drawable() after wrong calls", loft.drawable(), ready);
    }

    private static void exactlyAsManyAsThereAreAndOneMore() {
        VinegarLoft exactly = aged(1, 100, 14);
        int ready = exactly.drawable();
        double litres = exactly.litresIn(0);
        Check.holds("more than one", ready > 1);
        Check.that("draw one less", exactly.draw(ready - 1), ready - 1);
        Check.that("draw the last one", exactly.draw(1), 1);
        Check.that("draw after the last one", exactly.draw(1), 0);
        Check.that("bottles(YOUNG)", exactly.bottles(VinegarLoft.YOUNG), ready);
        VinegarLoft all = aged(1, 100, 14);
        Check.that("draw all", all.draw(ready), ready);
        Check.that("litresIn", all.litresIn(0), litres - ready * 0.1);
        Check.that("drawable()", all.drawable(), 0);
        VinegarLoft more = aged(1, 100, 14);
        Check.that("draw one more", more.draw(ready + 1), ready);
        Check.that("litresIn", more.litresIn(0), litres - ready * 0.1);
        Check.that("bottles(YOUNG)", more.bottles(VinegarLoft.YOUNG), ready);
    }

    private static void oneAndAThousandMayBeAskedFor() {
        VinegarLoft loft = aged(1, 100, 14);
        int ready = loft.drawable();
        Check.that("draw(1)", loft.draw(1), 1);
        Check.that("draw(1000)", loft.draw(1000), ready - 1);
        Check.that("draw(1000) of nothing", loft.draw(1000), 0);
        Check.that("draw(999) in a bare loft", new VinegarLoft().draw(999), 0);
    }

    private static void beforeAnyYearThereIsNothing() {
        VinegarLoft loft = aged(1, 100, 0);
        Check.that("drawable()", loft.drawable(), 0);
        Check.that("draw(1)", loft.draw(1), 0);
        Check.that("litresIn", loft.litresIn(0), 100.0);
        Check.that("bottles(YOUNG)", loft.bottles(VinegarLoft.YOUNG), 0);
    }

    private static void whatIsLeftOfAYearIsNotAddedToTheNext() {
        VinegarLoft loft = aged(1, 100, 12);
        for (int i = 0; i < 5; i++) {
            loft.year();
            double may = 0.25 * loft.litresIn(0);
            Check.that("drawable() in year " + i, loft.drawable(), (int) (may / 0.1));
            loft.draw(i + 1);
            may = may - (i + 1) * 0.1;
            Check.that("drawable() then", loft.drawable(), (int) (may / 0.1));
        }
    }

    /** Two barrels of the same old vinegar; the second one, of 39 litres, holds just 20.0 of it. */
    private static VinegarLoft withTwentyOldLitres() {
        VinegarLoft loft = aged(0, 40, 25);
        loft.fill(40);
        loft.add(0, 39);
        loft.topUp();
        Check.that("litresIn(1)", loft.litresIn(1), 20.0);
        return loft;
    }

    /** 19.2 litres are left: a quarter is 4.8, and 4.8 / 0.1 is a hair below 48. */
    private static void withoutWhatIsBehindThePoint() {
        VinegarLoft loft = withTwentyOldLitres();
        loft.setWarmth(38);
        loft.year();
        Check.that("litresIn(1)", loft.litresIn(1), 20.0 - 20.0 * 0.02 * (1.0 + 0.05 * (38 - 18)));
        double may = 0.25 * loft.litresIn(1);
        Check.holds("a hair below 48", may / 0.1 < 48.0 && may / 0.1 > 47.999999999);
        Check.that("drawable()", loft.drawable(), 47);
        Check.that("draw(48)", loft.draw(48), 47);
    }

    /** 19.6 litres are left: a quarter is 4.9, and 4.9 / 0.1 is 49. */
    private static void aQuarterOnTheBottle() {
        VinegarLoft loft = withTwentyOldLitres();
        loft.year();
        double litres = loft.litresIn(1);
        Check.that("a quarter in bottles", 0.25 * litres / 0.1, 49.0);
        Check.that("drawable()", loft.drawable(), 49);
        Check.that("draw(50)", loft.draw(50), 49);
        Check.that("litresIn(1)", loft.litresIn(1), litres - 49 * 0.1);
        Check.that("drawable() then", loft.drawable(), 0);
    }

    /** The bottles that empty a barrel are counted by the age that it had, with no other barrel left. */
    private static void theAgeBeforeTheLastBottleCounts() {
        VinegarLoft loft = withFiveOldLitres();
        Check.holds("ripe", loft.ageOf(1) >= 18.0 && loft.ageOf(1) < 25.0);
        loft.pourAway(0);
        Check.that("draw(50)", loft.draw(50), 50);
        Check.that("litresIn(1)", loft.litresIn(1), 0.0);
        Check.that("oldest()", loft.oldest(), -1);
        Check.that("bottles(RIPE)", loft.bottles(VinegarLoft.RIPE), 50);
        Check.that("bottles(YOUNG)", loft.bottles(VinegarLoft.YOUNG), 0);
    }

    private static void anEmptyRowGivesNothing() {
        VinegarLoft loft = aged(1, 100, 14);
        Check.holds("there is something to draw", loft.drawable() > 0);
        loft.pourAway(0);
        Check.that("drawable() of an emptied row", loft.drawable(), 0);
        Check.that("draw(1) of an emptied row", loft.draw(1), 0);
        loft.year();
        loft.fill(100);
        Check.that("drawable() of new must", loft.drawable(), 0);
    }

    private static void ofSeveralOldestTheLastOneIsDrawnFrom() {
        VinegarLoft loft = withTwentyOldLitres();
        loft.year();
        Check.that("the ages are the same", loft.ageOf(0), loft.ageOf(1));
        double first = loft.litresIn(0);
        double second = loft.litresIn(1);
        loft.draw(3);
        Check.that("litresIn(0)", loft.litresIn(0), first);
        Check.that("litresIn(1)", loft.litresIn(1), second - 3 * 0.1);
        loft.pourAway(1);
        Check.that("oldest()", loft.oldest(), 0);
        Check.that("drawable() from the other", loft.drawable(), 0);
        loft.year();
        Check.that("drawable() a year later", loft.drawable(), (int) (0.25 * loft.litresIn(0) / 0.1));
    }

    private static void whatIsFilledInLaterMayNotBeDrawn() {
        VinegarLoft loft = aged(1, 100, 16);
        int ready = loft.drawable();
        loft.fill(5);
        Check.holds("old enough", loft.ageOf(0) >= 12.0);
        Check.that("drawable() after fill", loft.drawable(), ready);
    }
}
