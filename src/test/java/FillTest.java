/** Promise 3: fill. */
public final class FillTest {
    public static void main(String[] args) {
        mustIsFilledAsFarAsThereIsRoom();
        mustIsMixedIn();
        mixingFollowsTheFormulaInAnEmptyBarrelToo();
        aFullBarrelIsLeftAsItIs();
        wrongLitres();
        withoutBarrels();
        exactlyTheRoomAndOneMore();
        aRoomOfLessThanALitre();
        aRoomOfAHair();
        theFirstBarrelAlone();
        fromAnEmptyBarrelOnAgain();
        theFormulaShowsInAnEmptyBarrel();
        Check.end();
    }

    private static void mustIsFilledAsFarAsThereIsRoom() {
        VinegarLoft loft = new VinegarLoft();
        loft.add(0, 60);
        loft.add(0, 50);
        Check.that("fill(1)", loft.fill(1), 1.0);
        Check.that("fill(58)", loft.fill(58), 58.0);
        Check.that("fill(100)", loft.fill(100), 1.0);
        Check.that("litresIn(0)", loft.litresIn(0), 60.0);
        Check.that("litresIn(1)", loft.litresIn(1), 0.0);
        Check.that("ageOf", loft.ageOf(0), 0.0);
        Check.that("acidOf", loft.acidOf(0), 1.0);
        Check.that("sugarOf", loft.sugarOf(0), 30.0);
    }

    private static void mustIsMixedIn() {
        VinegarLoft loft = new VinegarLoft();
        loft.add(1, 100);
        loft.fill(37);
        loft.year();
        double litres = loft.litresIn(0);
        double acid = loft.acidOf(0);
        double sugar = loft.sugarOf(0);
        Check.that("fill(13)", loft.fill(13), 13.0);
        Check.that("ageOf", loft.ageOf(0), (litres * 1.0 + 13.0 * 0.0) / (litres + 13.0));
        Check.that("acidOf", loft.acidOf(0), (litres * acid + 13.0 * 1.0) / (litres + 13.0));
        Check.that("sugarOf", loft.sugarOf(0), (litres * sugar + 13.0 * 30.0) / (litres + 13.0));
        Check.that("litresIn", loft.litresIn(0), litres + 13.0);
        double room = 100 - loft.litresIn(0);
        Check.that("fill(100) gives the rest", loft.fill(100), room);
        Check.that("full", loft.litresIn(0), 100.0);
    }

    private static void mixingFollowsTheFormulaInAnEmptyBarrelToo() {
        VinegarLoft loft = new VinegarLoft();
        loft.add(0, 57);
        loft.add(0, 13);
        loft.fill(57);
        loft.year();
        double acid = loft.acidOf(0);
        double sugar = loft.sugarOf(0);
        double passed = loft.topUp();
        Check.that("acid", loft.acidOf(1), (0.0 * 0.0 + passed * acid) / (0.0 + passed));
        Check.that("sugar", loft.sugarOf(1), (0.0 * 0.0 + passed * sugar) / (0.0 + passed));
    }

    private static void aFullBarrelIsLeftAsItIs() {
        for (int size = 10; size <= 100; size++) {
            VinegarLoft loft = new VinegarLoft();
            loft.add(2, size);
            for (int i = 0; i < 20; i++) {
                loft.fill(100);
                Check.that("litresIn", loft.litresIn(0), size);
                double age = loft.ageOf(0);
                double acid = loft.acidOf(0);
                double sugar = loft.sugarOf(0);
                Check.that("fill(1) into a full barrel", loft.fill(1), 0.0);
                Check.that("ageOf", loft.ageOf(0), age);
                Check.that("acidOf", loft.acidOf(0), acid);
                Check.that("sugarOf", loft.sugarOf(0), sugar);
                loft.year();
            }
        }
    }

    private static void wrongLitres() {
        VinegarLoft loft = new VinegarLoft();
        for (int round = 0; round < 2; round++) {
            for (int litres : new int[] {0, -1, 101, Integer.MIN_VALUE, Integer.MAX_VALUE}) {
                Check.throwing("fill(" + litres + ")", IllegalArgumentException.class, () -> loft.fill(litres));
            }
            if (round == 0) {
                loft.add(0, 100);
            }
        }
        Check.that("litresIn after wrong calls", loft.litresIn(0), 0.0);
    }

    private static void withoutBarrels() {
        VinegarLoft loft = new VinegarLoft();
        Check.that("fill(1)", loft.fill(1), 0.0);
        Check.that("fill(100)", loft.fill(100), 0.0);
        loft.add(0, 50);
        Check.that("nothing was kept", loft.litresIn(0), 0.0);
    }

    private static void exactlyTheRoomAndOneMore() {
        for (int size = 10; size <= 100; size++) {
            VinegarLoft loft = new VinegarLoft();
            loft.add(0, size);
            Check.that("fill one less than the room of " + size, loft.fill(size - 1), size - 1.0);
            Check.that("the last litre", loft.fill(2), 1.0);
            Check.that("full", loft.litresIn(0), size);
            loft.pourAway(0);
            Check.that("fill exactly the room of " + size, loft.fill(size), size);
            Check.that("fill(100) into a full one", loft.fill(100), 0.0);
            if (size < 100) {
                loft.pourAway(0);
                Check.that("fill one more than the room of " + size, loft.fill(size + 1), size);
            }
            Check.that("full again", loft.litresIn(0), size);
        }
    }

    private static void aRoomOfLessThanALitre() {
        VinegarLoft loft = new VinegarLoft();
        loft.add(0, 30);
        loft.fill(30);
        loft.year();
        double litres = 30.0 - 30.0 * 0.02 * 1.0;
        double sugar = loft.sugarOf(0);
        double room = 30 - litres;
        Check.holds("less than a litre", room < 1.0);
        Check.that("fill(1)", loft.fill(1), room);
        Check.that("litresIn", loft.litresIn(0), litres + room);
        Check.that("ageOf", loft.ageOf(0), (litres * 1.0 + room * 0.0) / (litres + room));
        Check.that("sugarOf", loft.sugarOf(0), (litres * sugar + room * 30.0) / (litres + room));
        Check.that("fill(1) again", loft.fill(1), 0.0);
    }

    /** What has no room in the first barrel does not go into the second one. */
    private static void theFirstBarrelAlone() {
        VinegarLoft loft = new VinegarLoft();
        loft.add(0, 12);
        loft.add(0, 11);
        Check.that("fill(100)", loft.fill(100), 12.0);
        Check.that("fill(100) again", loft.fill(100), 0.0);
        Check.that("litresIn(1)", loft.litresIn(1), 0.0);
    }

    private static void fromAnEmptyBarrelOnAgain() {
        VinegarLoft loft = new VinegarLoft();
        loft.add(0, 50);
        loft.fill(50);
        loft.year();
        loft.pourAway(0);
        Check.that("fill(1)", loft.fill(1), 1.0);
        Check.that("ageOf", loft.ageOf(0), 0.0);
        Check.that("acidOf", loft.acidOf(0), 1.0);
        Check.that("sugarOf", loft.sugarOf(0), 30.0);
    }

    /** (0.0 * 0.0 + w * y) / (0.0 + w) is not always y: the last bit tells that the formula was used. */
    private static void theFormulaShowsInAnEmptyBarrel() {
        int apart = 0;
        for (int size = 10; size < 100; size++) {
            VinegarLoft loft = new VinegarLoft();
            loft.add(2, 100);
            loft.add(1, size);
            loft.fill(100);
            loft.year();
            loft.year();
            double acid = loft.acidOf(0);
            double sugar = loft.sugarOf(0);
            double w = loft.topUp();
            double due = (0.0 * 0.0 + w * sugar) / (0.0 + w);
            Check.that("sugarOf behind, size " + size, loft.sugarOf(1), due);
            Check.that("acidOf behind, size " + size, loft.acidOf(1), (0.0 * 0.0 + w * acid) / (0.0 + w));
            apart += due == sugar ? 0 : 1;
        }
        Check.holds("a last bit differs somewhere", apart > 0);
    }

    /** In the cold, ten litres of oak lose 0.04: that is all the room there is. */
    private static void aRoomOfAHair() {
        VinegarLoft loft = new VinegarLoft();
        loft.add(0, 10);
        loft.fill(10);
        loft.setWarmth(0);
        loft.year();
        double litres = 10.0 - 10.0 * 0.02 * 0.2;
        double room = 10 - litres;
        Check.holds("little room", room < 0.05);
        Check.that("fill(1)", loft.fill(1), room);
        Check.that("litresIn", loft.litresIn(0), litres + room);
        Check.that("ageOf", loft.ageOf(0), (litres * 1.0 + room * 0.0) / (litres + room));
    }
}
