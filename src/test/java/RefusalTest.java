/** A refused call throws what the document names and changes nothing: neither answers nor what comes later. */
public final class RefusalTest {
    private static final Class<?> ARGUMENT = IllegalArgumentException.class;
    private static final Class<?> STATE = IllegalStateException.class;
    private static final Class<?> INDEX = IndexOutOfBoundsException.class;
    private static final int[] FAR_OUT = {-1, Integer.MIN_VALUE, Integer.MIN_VALUE + 1, Integer.MAX_VALUE - 1,
        Integer.MAX_VALUE, 1 << 16, 1 << 30, 1 << 31};

    public static void main(String[] args) {
        addRefusesAndChangesNothing();
        aNinthBarrelChangesNothing();
        fillRefusesAndChangesNothing();
        drawRefusesAndChangesNothing();
        setWarmthRefusesAndChangesNothing();
        pourAwayRefusesAndChangesNothing();
        askingForNoBarrelChangesNothing();
        bottlesRefusesAndChangesNothing();
        aBareLoftRefusesToo();
        Check.end();
    }

    interface Refused {
        void call(VinegarLoft loft);
    }

    private static void leavesAllAsItIs(String what, Class<?> due, Refused refused) {
        VinegarLoft loft = Answers.wellUsed();
        VinegarLoft twin = Answers.wellUsed();
        Check.throwing(what, due, () -> refused.call(loft));
        Check.that("after " + what, Answers.of(loft), Answers.of(twin));
        goesOnLike(what, loft, twin);
    }

    /** What no answer tells, such as the warmth, shows in the years to come. */
    private static void goesOnLike(String what, VinegarLoft loft, VinegarLoft twin) {
        for (int i = 0; i < 3; i++) {
            Check.that("draw after " + what, loft.draw(1), twin.draw(1));
            Check.that("topUp after " + what, loft.topUp(), twin.topUp());
            Check.that("year after " + what, loft.year(), twin.year());
            Check.that("fill after " + what, loft.fill(100), twin.fill(100));
            Check.that("later, after " + what, Answers.of(loft), Answers.of(twin));
        }
        Check.that("firstBottleIn after " + what, loft.firstBottleIn(), twin.firstBottleIn());
    }

    private static void addRefusesAndChangesNothing() {
        for (int wood : new int[] {-1, 4, 5}) {
            leavesAllAsItIs("add(" + wood + ", 20)", ARGUMENT, loft -> loft.add(wood, 20));
        }
        for (int size : new int[] {9, 0, 37, 38, 90, 100, 101}) {
            leavesAllAsItIs("add(0, " + size + ")", ARGUMENT, loft -> loft.add(0, size));
        }
        for (int far : FAR_OUT) {
            leavesAllAsItIs("add(" + far + ", 20)", ARGUMENT, loft -> loft.add(far, 20));
            leavesAllAsItIs("add(0, " + far + ")", ARGUMENT, loft -> loft.add(0, far));
        }
    }

    private static void aNinthBarrelChangesNothing() {
        VinegarLoft loft = Answers.wellUsed();
        VinegarLoft twin = Answers.wellUsed();
        for (int size = 36; size > 31; size--) {
            loft.add(0, size);
            twin.add(0, size);
        }
        Check.throwing("a ninth barrel", STATE, () -> loft.add(0, 31));
        Check.throwing("a ninth of wood 4", ARGUMENT, () -> loft.add(4, 31));
        Check.throwing("a ninth of the last one's size", ARGUMENT, () -> loft.add(0, 32));
        Check.that("barrels()", loft.barrels(), 8);
        Check.that("after a ninth barrel", Answers.of(loft), Answers.of(twin));
        goesOnLike("a ninth barrel", loft, twin);
    }

    private static void fillRefusesAndChangesNothing() {
        for (int litres : new int[] {0, 101}) {
            leavesAllAsItIs("fill(" + litres + ")", ARGUMENT, loft -> loft.fill(litres));
        }
        for (int far : FAR_OUT) {
            leavesAllAsItIs("fill(" + far + ")", ARGUMENT, loft -> loft.fill(far));
        }
    }

    private static void drawRefusesAndChangesNothing() {
        Check.holds("there is something to draw", Answers.wellUsed().drawable() > 3);
        for (int bottles : new int[] {0, 1001}) {
            leavesAllAsItIs("draw(" + bottles + ")", ARGUMENT, loft -> loft.draw(bottles));
        }
        for (int far : FAR_OUT) {
            leavesAllAsItIs("draw(" + far + ")", ARGUMENT, loft -> loft.draw(far));
        }
    }

    private static void setWarmthRefusesAndChangesNothing() {
        leavesAllAsItIs("setWarmth(41)", ARGUMENT, loft -> loft.setWarmth(41));
        for (int far : FAR_OUT) {
            leavesAllAsItIs("setWarmth(" + far + ")", ARGUMENT, loft -> loft.setWarmth(far));
        }
    }

    private static void pourAwayRefusesAndChangesNothing() {
        for (int barrel : new int[] {3, 7, 8}) {
            leavesAllAsItIs("pourAway(" + barrel + ")", INDEX, loft -> loft.pourAway(barrel));
        }
        for (int far : FAR_OUT) {
            leavesAllAsItIs("pourAway(" + far + ")", INDEX, loft -> loft.pourAway(far));
        }
    }

    private static void askingForNoBarrelChangesNothing() {
        for (int barrel : new int[] {-1, 3, 7, 8, Integer.MIN_VALUE, Integer.MAX_VALUE}) {
            String of = "(" + barrel + ")";
            leavesAllAsItIs("litresIn" + of, INDEX, loft -> loft.litresIn(barrel));
            leavesAllAsItIs("ageOf" + of, INDEX, loft -> loft.ageOf(barrel));
            leavesAllAsItIs("acidOf" + of, INDEX, loft -> loft.acidOf(barrel));
            leavesAllAsItIs("sugarOf" + of, INDEX, loft -> loft.sugarOf(barrel));
            leavesAllAsItIs("tasteOf" + of, INDEX, loft -> loft.tasteOf(barrel));
        }
    }

    private static void bottlesRefusesAndChangesNothing() {
        leavesAllAsItIs("bottles(3)", ARGUMENT, loft -> loft.bottles(3));
        for (int far : FAR_OUT) {
            leavesAllAsItIs("bottles(" + far + ")", ARGUMENT, loft -> loft.bottles(far));
        }
    }

    /** Without barrels too, a wrong argument is refused before the call has nothing to do. */
    private static void aBareLoftRefusesToo() {
        VinegarLoft bare = new VinegarLoft();
        Check.throwing("bare: fill(0)", ARGUMENT, () -> bare.fill(0));
        Check.throwing("bare: fill(101)", ARGUMENT, () -> bare.fill(101));
        Check.throwing("bare: draw(0)", ARGUMENT, () -> bare.draw(0));
        Check.throwing("bare: draw(1001)", ARGUMENT, () -> bare.draw(1001));
        Check.throwing("bare: setWarmth(-1)", ARGUMENT, () -> bare.setWarmth(-1));
        Check.throwing("bare: setWarmth(41)", ARGUMENT, () -> bare.setWarmth(41));
        Check.throwing("bare: bottles(-1)", ARGUMENT, () -> bare.bottles(-1));
        Check.throwing("bare: bottles(3)", ARGUMENT, () -> bare.bottles(3));
        Check.throwing("bare: pourAway(0)", INDEX, () -> bare.pourAway(0));
        Check.throwing("bare: tasteOf(0)", INDEX, () -> bare.tasteOf(0));
        Check.that("bare loft", Answers.of(bare), Answers.of(new VinegarLoft()));
    }
}
