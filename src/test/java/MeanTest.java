/** Promises 19 and 20: meanAge and meanSugar. */
public final class MeanTest {
    public static void main(String[] args) {
        ofNothing();
        addedInTheOrderOfTheBarrels();
        ofOneBarrelAmongEmptyOnes();
        theOrderOfTheSumsShows();
        Check.end();
    }

    private static void ofNothing() {
        VinegarLoft loft = new VinegarLoft();
        Check.that("meanAge() without barrels", loft.meanAge(), 0.0);
        Check.that("meanSugar() without barrels", loft.meanSugar(), 0.0);
        loft.add(0, 50);
        loft.add(0, 40);
        Check.that("meanAge() of empty ones", loft.meanAge(), 0.0);
        Check.that("meanSugar() of empty ones", loft.meanSugar(), 0.0);
        loft.fill(30);
        Check.that("meanAge() of must", loft.meanAge(), 0.0);
        Check.that("meanSugar() of must", loft.meanSugar(), 30.0);
        loft.pourAway(0);
        Check.that("meanSugar() of emptied ones", loft.meanSugar(), 0.0);
    }

    private static void addedInTheOrderOfTheBarrels() {
        VinegarLoft loft = new VinegarLoft();
        loft.add(0, 91);
        loft.add(1, 67);
        loft.add(2, 43);
        loft.add(3, 19);
        for (int i = 0; i < 20; i++) {
            loft.fill(91);
            loft.topUp();
            loft.year();
            double litres = 0.0;
            double ages = 0.0;
            double sugars = 0.0;
            for (int b = 0; b < 4; b++) {
                litres = litres + loft.litresIn(b);
                ages = ages + loft.litresIn(b) * loft.ageOf(b);
                sugars = sugars + loft.litresIn(b) * loft.sugarOf(b);
            }
            Check.that("meanAge() in year " + i, loft.meanAge(), ages / litres);
            Check.that("meanSugar() in year " + i, loft.meanSugar(), sugars / litres);
        }
    }

    private static void ofOneBarrelAmongEmptyOnes() {
        VinegarLoft loft = new VinegarLoft();
        loft.add(0, 60);
        loft.add(0, 50);
        loft.add(0, 40);
        loft.fill(60);
        loft.topUp();
        for (int i = 0; i < 3; i++) {
            loft.year();
        }
        loft.pourAway(0);
        double litres = loft.litresIn(1);
        Check.that("meanAge()", loft.meanAge(), litres * 3.0 / litres);
        Check.that("meanSugar()", loft.meanSugar(), litres * loft.sugarOf(1) / litres);
        loft.pourAway(1);
        Check.that("meanAge() of nothing", loft.meanAge(), 0.0);
        Check.that("meanSugar() of nothing", loft.meanSugar(), 0.0);
    }

    /** Summed from the last barrel on, a last bit would differ here and there. */
    private static void theOrderOfTheSumsShows() {
        int litresApart = 0;
        int agesApart = 0;
        int sugarsApart = 0;
        VinegarLoft loft = new VinegarLoft();
        int[] sizes = {91, 67, 43, 19, 11};
        for (int i = 0; i < 5; i++) {
            loft.add(i % 4, sizes[i]);
        }
        for (int year = 0; year < 24; year++) {
            loft.fill(100);
            loft.topUp();
            loft.year();
            double[][] held = new double[5][];
            for (int i = 0; i < 5; i++) {
                held[i] = new double[] {loft.litresIn(i), loft.ageOf(i), loft.sugarOf(i)};
            }
            double[] due = sums(held, true);
            double[] other = sums(held, false);
            Check.that("meanAge() in year " + year, loft.meanAge(), due[1] / due[0]);
            Check.that("meanSugar() in year " + year, loft.meanSugar(), due[2] / due[0]);
            litresApart += due[1] / due[0] == due[1] / other[0] ? 0 : 1;
            agesApart += due[1] / due[0] == other[1] / due[0] ? 0 : 1;
            sugarsApart += due[2] / due[0] == other[2] / due[0] ? 0 : 1;
        }
        Check.holds("the order shows somewhere", litresApart > 0 && agesApart > 0 && sugarsApart > 0);
    }

    private static double[] sums(double[][] held, boolean fromTheFirst) {
        double[] sums = new double[3];
        for (int i = 0; i < 5; i++) {
            double[] barrel = held[fromTheFirst ? i : 4 - i];
            sums[0] = sums[0] + barrel[0];
            sums[1] = sums[1] + barrel[0] * barrel[1];
            sums[2] = sums[2] + barrel[0] * barrel[2];
        }
        return sums;
    }
}
