/** A loft with one row of vinegar barrels, the largest first. */
public final class VinegarLoft {
    /** Kinds of bottles, by the age at which they were drawn. */
    public static final int YOUNG = 0, RIPE = 1, OLD = 2;

    private static final int KINDS = 3;
    private static final int WOODS = 4;
    private static final int SMALLEST = 10;
    private static final int LARGEST = 100;
    private static final int MOST_BARRELS = 8;
    private static final int MOST_LITRES_AT_ONCE = 100;
    private static final int MOST_BOTTLES_AT_ONCE = 1000;
    private static final int WARMTH_AT_FIRST = 18;
    private static final int GREATEST_WARMTH = 40;
    private static final int YEARS_LOOKED_AHEAD = 60;
    private static final int NO_BARREL = -1;

    private final Row row;
    // Made once and used again by every look ahead, so that asking makes no objects.
    private final Row trial;
    private final int[] drawnByKind;
    private int yearsGone;

    public VinegarLoft() {
        row = new Row();
        trial = new Row();
        drawnByKind = new int[KINDS];
        yearsGone = 0;
    }

    public int add(int wood, int size) throws IllegalArgumentException, IllegalStateException {
        if (wood < 0 || wood >= WOODS) {
            throw new IllegalArgumentException("no such wood");
        }
        if (size < SMALLEST || size > row.largestNext()) {
            throw new IllegalArgumentException("size out of range");
        }
        if (row.isComplete()) {
            throw new IllegalStateException("the row has all its barrels");
        }
        return row.putBehind(wood, size);
    }

    public double fill(int litres) throws IllegalArgumentException {
        if (litres < 1 || litres > MOST_LITRES_AT_ONCE) {
            throw new IllegalArgumentException("litres out of range");
        }
        return row.pourMust(litres);
    }

    public double topUp() {
        return row.passDown();
    }

    public double year() {
        yearsGone++;
        return row.ageAll();
    }

    public int draw(int bottles) throws IllegalArgumentException {
        if (bottles < 1 || bottles > MOST_BOTTLES_AT_ONCE) {
            throw new IllegalArgumentException("bottles out of range");
        }
        int ready = row.bottlesReady();
        int taken = bottles < ready ? bottles : ready;
        if (taken > 0) {
            // The kind is told before the barrel may run empty and lose its age.
            drawnByKind[kindAt(row.greatestAge())] += taken;
            row.takeBottles(taken);
        }
        return taken;
    }

    public double pourAway(int barrel) throws IndexOutOfBoundsException {
        Barrel emptied = barrelNumbered(barrel);
        double litres = emptied.litres;
        emptied.clear();
        return litres;
    }

    public void setWarmth(int degrees) throws IllegalArgumentException {
        if (degrees < 0 || degrees > GREATEST_WARMTH) {
            throw new IllegalArgumentException("degrees out of range");
        }
        row.warmth = degrees;
    }

    public int barrels() {
        return row.count;
    }

    public double litresIn(int barrel) throws IndexOutOfBoundsException {
        return barrelNumbered(barrel).litres;
    }

    public double ageOf(int barrel) throws IndexOutOfBoundsException {
        return barrelNumbered(barrel).age;
    }

    public double acidOf(int barrel) throws IndexOutOfBoundsException {
        return barrelNumbered(barrel).acid;
    }

    public double sugarOf(int barrel) throws IndexOutOfBoundsException {
        return barrelNumbered(barrel).sugar;
    }

    public double tasteOf(int barrel) throws IndexOutOfBoundsException {
        return barrelNumbered(barrel).taste();
    }

    public int oldest() {
        return row.eldest();
    }

    public int drawable() {
        return row.bottlesReady();
    }

    public int bottles(int kind) throws IllegalArgumentException {
        if (kind < 0 || kind >= KINDS) {
            throw new IllegalArgumentException("no such kind of bottles");
        }
        return drawnByKind[kind];
    }

    public int years() {
        return yearsGone;
    }

    public double meanAge() {
        double litres = row.allLitres();
        return litres > 0.0 ? row.litresTimesAge() / litres : 0.0;
    }

    public double meanSugar() {
        double litres = row.allLitres();
        return litres > 0.0 ? row.litresTimesSugar() / litres : 0.0;
    }

    public int firstBottleIn() {
        if (row.bottlesReady() > 0) {
            return 0;
        }
        trial.copyFrom(row);
        for (int ahead = 1; ahead <= YEARS_LOOKED_AHEAD; ahead++) {
            trial.pourMust(LARGEST);
            trial.passDown();
            trial.ageAll();
            if (trial.bottlesReady() > 0) {
                return ahead;
            }
        }
        return -1;
    }

    private Barrel barrelNumbered(int number) {
        if (number < 0 || number >= row.count) {
            throw new IndexOutOfBoundsException("no such barrel");
        }
        return row.line[number];
    }

    private static int kindAt(double age) {
        if (age < 18.0) {
            return YOUNG;
        }
        return age < 25.0 ? RIPE : OLD;
    }

    /** One barrel with what it holds; an empty one has only zeros. */
    private static final class Barrel {
        int wood;
        int size;
        double litres;
        double age;
        double acid;
        double sugar;

        void copyFrom(Barrel other) {
            wood = other.wood;
            size = other.size;
            litres = other.litres;
            age = other.age;
            acid = other.acid;
            sugar = other.sugar;
        }

        boolean isEmpty() {
            return litres <= 0.0;
        }

        void clear() {
            litres = 0.0;
            age = 0.0;
            acid = 0.0;
            sugar = 0.0;
        }

        void mixIn(double more, double itsAge, double itsAcid, double itsSugar) {
            // An empty barrel is mixed too: the rounding of the formula is promised.
            age = mixed(litres, age, more, itsAge);
            acid = mixed(litres, acid, more, itsAcid);
            sugar = mixed(litres, sugar, more, itsSugar);
            litres = litres + more;
        }

        void takeOut(double less) {
            litres = litres - less;
            // Rounding can leave a hair below nothing.
            if (litres <= 0.0) {
                clear();
            }
        }

        double spendYear(double draught) {
            double before = litres;
            double lost = litres * share(wood) * draught;
            takeOut(lost);
            if (!isEmpty()) {
                double thicker = sugar * before / litres;
                sugar = thicker > 70.0 ? 70.0 : thicker;
                sour();
                age = age + 1.0;
            }
            return lost;
        }

        private void sour() {
            if (sugar > 20.0 && acid < 8.0) {
                acid = acid + 0.6;
                sugar = sugar - 0.8;
            } else {
                double sharper = acid + 0.1;
                acid = sharper > 12.0 ? 12.0 : sharper;
            }
        }

        double taste() {
            if (isEmpty()) {
                return 0.0;
            }
            double difference = acid - 6.0;
            double apart = difference < 0.0 ? -difference : difference;
            return 0.5 * age + 0.8 * sugar - 3.0 * apart;
        }

        private static double mixed(double v, double x, double w, double y) {
            double all = v + w;
            return all > 0.0 ? (v * x + w * y) / all : 0.0;
        }

        private static double share(int wood) {
            switch (wood) {
                case 0:
                    return 0.02;
                case 1:
                    return 0.03;
                case 2:
                    return 0.035;
                default:
                    return 0.025;
            }
        }
    }

    /** The row of barrels, with what may still be drawn from it this year. */
    private static final class Row {
        final Barrel[] line;
        int count;
        int warmth;
        // The barrel that was the oldest one when the last year had gone by.
        private int drawnFrom;
        private double mayBeDrawn;

        Row() {
            line = new Barrel[MOST_BARRELS];
            for (int i = 0; i < line.length; i++) {
                line[i] = new Barrel();
            }
            count = 0;
            warmth = WARMTH_AT_FIRST;
            drawnFrom = NO_BARREL;
            mayBeDrawn = 0.0;
        }

        void copyFrom(Row other) {
            count = other.count;
            warmth = other.warmth;
            drawnFrom = other.drawnFrom;
            mayBeDrawn = other.mayBeDrawn;
            for (int i = 0; i < count; i++) {
                line[i].copyFrom(other.line[i]);
            }
        }

        boolean isComplete() {
            return count >= line.length;
        }

        int largestNext() {
            return count > 0 ? line[count - 1].size - 1 : LARGEST;
        }

        int putBehind(int wood, int size) {
            if (isComplete()) {
                return NO_BARREL;
            }
            Barrel last = line[count];
            last.wood = wood;
            last.size = size;
            last.clear();
            count++;
            return count - 1;
        }

        double pourMust(int litres) {
            if (count == 0) {
                return 0.0;
            }
            Barrel first = line[0];
            double room = first.size - first.litres;
            double poured = litres < room ? litres : room;
            if (poured <= 0.0) {
                return 0.0;
            }
            first.mixIn(poured, 0.0, 1.0, 30.0);
            return poured;
        }

        double passDown() {
            double passed = 0.0;
            for (int i = count - 1; i > 0; i--) {
                passed = passed + passBetween(line[i - 1], line[i]);
            }
            return passed;
        }

        private static double passBetween(Barrel ahead, Barrel behind) {
            double lack = 0.9 * behind.size - behind.litres;
            double most = 0.5 * ahead.litres;
            double passed = lack < most ? lack : most;
            if (passed <= 0.0) {
                return 0.0;
            }
            behind.mixIn(passed, ahead.age, ahead.acid, ahead.sugar);
            ahead.takeOut(passed);
            return passed;
        }

        double ageAll() {
            double draught = draughtNow();
            double lost = 0.0;
            for (int i = 0; i < count; i++) {
                if (!line[i].isEmpty()) {
                    lost = lost + line[i].spendYear(draught);
                }
            }
            drawnFrom = eldest();
            mayBeDrawn = drawnFrom == NO_BARREL ? 0.0 : 0.25 * line[drawnFrom].litres;
            return lost;
        }

        private double draughtNow() {
            double draught = 1.0 + 0.05 * (warmth - 18);
            return draught < 0.2 ? 0.2 : draught;
        }

        int eldest() {
            int eldest = NO_BARREL;
            double greatest = 0.0;
            for (int i = 0; i < count; i++) {
                if (!line[i].isEmpty() && line[i].age >= greatest) {
                    eldest = i;
                    greatest = line[i].age;
                }
            }
            return eldest;
        }

        double greatestAge() {
            int eldest = eldest();
            return eldest == NO_BARREL ? 0.0 : line[eldest].age;
        }

        int bottlesReady() {
            int eldest = eldest();
            if (eldest == NO_BARREL || eldest != drawnFrom) {
                return 0;
            }
            Barrel from = line[eldest];
            if (from.age < 12.0 || from.sugar < 25.0) {
                return 0;
            }
            double lesser = mayBeDrawn < from.litres ? mayBeDrawn : from.litres;
            return lesser > 0.0 ? (int) (lesser / 0.1) : 0;
        }

        void takeBottles(int bottles) {
            if (drawnFrom == NO_BARREL) {
                return;
            }
            double taken = bottles * 0.1;
            mayBeDrawn = mayBeDrawn - taken;
            line[drawnFrom].takeOut(taken);
        }

        double allLitres() {
            double sum = 0.0;
            for (int i = 0; i < count; i++) {
                sum = sum + line[i].litres;
            }
            return sum;
        }

        double litresTimesAge() {
            double sum = 0.0;
            for (int i = 0; i < count; i++) {
                sum = sum + line[i].litres * line[i].age;
            }
            return sum;
        }

        double litresTimesSugar() {
            double sum = 0.0;
            for (int i = 0; i < count; i++) {
                sum = sum + line[i].litres * line[i].sugar;
            }
            return sum;
        }
    }
}
