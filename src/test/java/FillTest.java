/** Promise 3: fill. */
public final class FillTest {
    public static void main(String[] args) {
        mustIsFilledAsFarAsThereIsRoom();
        mustIsMixedIn();
        mixingFollowsTheFormulaInAnEmptyBarrelToo();
        aFullBarrelIsLeftAsItIs();
        wrongLitres();
        withoutBarrels();
        Check.end();
    }

    private static void mustIsFilledAsFarAsThereIsRoom() {
        VinegarLoft loft = new VinegarLoft();
        loft.add(0, 60);
        loft.add(0, 50);
        Check.that("fill(1)", loft.fill(1), 1.0);
        Check.that("fill(58)", loft.fill(58), 58.0);
        Check.that("fill(100)", loft.fill(100), 1.0);
        Check.that("litresIn(0)", loft.litresIn(0), 60.0);
        Check.that("litresIn(1)", loft.litresIn(1), 0.0);
        Check.that("ageOf", loft.ageOf(0), 0.0);
        Check.that("acidOf", loft.acidOf(0), 1.0);
        Check.that("sugarOf", loft.sugarOf(0), 30.0);
    }

    private static void mustIsMixedIn() {
        VinegarLoft loft = new VinegarLoft();
        loft.add(1, 100);
        loft.fill(37);
        loft.year();
        double litres = loft.litresIn(0);
        double acid = loft.acidOf(0);
        double sugar = loft.sugarOf(0);
        Check.that("fill(13)", loft.fill(13), 13.0);
        Check.that("ageOf", loft.ageOf(0), (litres * 1.0 + 13.0 * 0.0) / (litres + 13.0));
        Check.that("acidOf", loft.acidOf(0), (litres * acid + 13.0 * 1.0) / (litres + 13.0));
        Check.that("sugarOf", loft.sugarOf(0), (litres * sugar + 13.0 * 30.0) / (litres + 13.0));
        Check.that("litresIn", loft.litresIn(0), litres + 13.0);
        double room = 100 - loft.litresIn(0);
        Check.that("fill(100) gives the rest", loft.fill(100), room);
        Check.that("full", loft.litresIn(0), 100.0);
    }

    private static void mixingFollowsTheFormulaInAnEmptyBarrelToo() {
        VinegarLoft loft = new VinegarLoft();
        loft.add(0, 57);
        loft.add(0, 13);
        loft.fill(57);
        loft.year();
        double acid = loft.acidOf(0);
        double sugar = loft.sugarOf(0);
        double passed = loft.topUp();
        Check.that("acid", loft.acidOf(1), (0.0 * 0.0 + passed * acid) / (0.0 + passed));
        Check.that("sugar", loft.sugarOf(1), (0.0 * 0.0 + passed * sugar) / (0.0 + passed));
    }

    private static void aFullBarrelIsLeftAsItIs() {
        for (int size = 10; size <= 100; size++) {
            VinegarLoft loft = new VinegarLoft();
            loft.add(2, size);
            for (int i = 0; i < 20; i++) {
                loft.fill(100);
                Check.that("litresIn", loft.litresIn(0), size);
                double age = loft.ageOf(0);
                double acid = loft.acidOf(0);
                double sugar = loft.sugarOf(0);
                Check.that("fill(1) into a full barrel", loft.fill(1), 0.0);
                Check.that("ageOf", loft.ageOf(0), age);
                Check.that("acidOf", loft.acidOf(0), acid);
                Check.that("sugarOf", loft.sugarOf(0), sugar);
                loft.year();
            }
        }
    }

    private static void wrongLitres() {
        VinegarLoft loft = new VinegarLoft();
        for (int round = 0; round < 2; round++) {
            for (int litres : new int[] {0, -1, 101, Integer.MIN_VALUE, Integer.MAX_VALUE}) {
                Check.throwing("fill(" + litres + ")", IllegalArgumentException.class, () -> loft.fill(litres));
            }
            if (round == 0) {
                loft.add(0, 100);
            }
        }
        Check.that("litresIn after wrong calls", loft.litresIn(0), 0.0);
    }

    private static void withoutBarrels() {
        VinegarLoft loft = new VinegarLoft();
        Check.that("fill(1)", loft.fill(1), 0.0);
        Check.that("fill(100)", loft.fill(100), 0.0);
        loft.add(0, 50);
        Check.that("nothing was kept", loft.litresIn(0), 0.0);
    }
}
