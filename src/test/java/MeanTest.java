/** Promises 19 and 20: meanAge and meanSugar. */
public final class MeanTest {
    public static void main(String[] args) {
        ofNothing();
        addedInTheOrderOfTheBarrels();
        Check.end();
    }

    private static void ofNothing() {
        VinegarLoft loft = new VinegarLoft();
        Check.that("meanAge() without barrels", loft.meanAge(), 0.0);
        Check.that("meanSugar() without barrels", loft.meanSugar(), 0.0);
        loft.add(0, 50);
        loft.add(0, 40);
        Check.that("meanAge() of empty ones", loft.meanAge(), 0.0);
        Check.that("meanSugar() of empty ones", loft.meanSugar(), 0.0);
        loft.fill(30);
        Check.that("meanAge() of must", loft.meanAge(), 0.0);
        Check.that("meanSugar() of must", loft.meanSugar(), 30.0);
        loft.pourAway(0);
        Check.that("meanSugar() of emptied ones", loft.meanSugar(), 0.0);
    }

    private static void addedInTheOrderOfTheBarrels() {
        VinegarLoft loft = new VinegarLoft();
        loft.add(0, 91);
        loft.add(1, 67);
        loft.add(2, 43);
        loft.add(3, 19);
        for (int i = 0; i < 20; i++) {
            loft.fill(91);
            loft.topUp();
            loft.year();
            double litres = 0.0;
            double ages = 0.0;
            double sugars = 0.0;
            for (int b = 0; b < 4; b++) {
                litres = litres + loft.litresIn(b);
                ages = ages + loft.litresIn(b) * loft.ageOf(b);
                sugars = sugars + loft.litresIn(b) * loft.sugarOf(b);
            }
            Check.that("meanAge() in year " + i, loft.meanAge(), ages / litres);
            Check.that("meanSugar() in year " + i, loft.meanSugar(), sugars / litres);
        }
    }
}
