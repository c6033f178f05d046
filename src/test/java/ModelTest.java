/**
 * Long runs of calls against a second, plainer telling of the document, held in rows of numbers.
 * The calls are chosen by a fixed row of numbers, so each run of this test makes the same calls.
 */
public final class ModelTest {
    private static final int RUNS = 3000;
    // An object is used for at most 512 calls; the answers compared at the end of a run are among them.
    private static final int CALLS = 512 - 9 - 5 * 8;
    private static final double[] SHARES = {0.02, 0.03, 0.035, 0.025};

    private static long state = 20240607L;

    private static int pick(int bound) {
        state = state * 6364136223846793005L + 1442695040888963407L;
        return (int) ((state >>> 33) % bound);
    }

    private static final class Model {
        final int[] wood = new int[8];
        final int[] size = new int[8];
        // Of each barrel: litres, age, acid, sugar.
        final double[][] held = new double[8][4];
        final int[] drawn = new int[3];
        int count;
        int warmth = 18;
        int years;
        int source = -1;
        double may;

        Model copy() {
            Model other = new Model();
            for (int i = 0; i < 8; i++) {
                other.wood[i] = wood[i];
                other.size[i] = size[i];
                other.held[i] = held[i].clone();
            }
            other.count = count;
            other.warmth = warmth;
            other.years = years;
            other.source = source;
            other.may = may;
            return other;
        }

        void mix(int barrel, double w, double[] with) {
            double v = held[barrel][0];
            for (int k = 1; k < 4; k++) {
                held[barrel][k] = (v * held[barrel][k] + w * with[k]) / (v + w);
            }
            held[barrel][0] = v + w;
        }

        void take(int barrel, double w) {
            held[barrel][0] -= w;
            if (!(held[barrel][0] > 0.0)) {
                held[barrel] = new double[4];
            }
        }

        double fill(double litres) {
            if (count == 0) {
                return 0.0;
            }
            double w = Math.min(litres, size[0] - held[0][0]);
            if (w > 0.0) {
                mix(0, w, new double[] {w, 0.0, 1.0, 30.0});
            }
            return Math.max(w, 0.0);
        }

        double topUp() {
            double sum = 0.0;
            for (int i = count - 1; i >= 1; i--) {
                double level = 0.9 * size[i];
                if (held[i][0] < level && held[i - 1][0] > 0.0) {
                    double w = Math.min(level - held[i][0], 0.5 * held[i - 1][0]);
                    mix(i, w, held[i - 1]);
                    take(i - 1, w);
                    sum += w;
                }
            }
            return sum;
        }

        double year() {
            double sum = 0.0;
            double draught = Math.max(0.2, 1.0 + 0.05 * (warmth - 18));
            for (int i = 0; i < count; i++) {
                double[] b = held[i];
                if (b[0] == 0.0) {
                    continue;
                }
                double before = b[0];
                double lost = before * SHARES[wood[i]] * draught;
                b[0] = before - lost;
                sum += lost;
                b[3] = Math.min(70.0, b[3] * before / b[0]);
                if (b[3] > 20.0 && b[2] < 8.0) {
                    b[2] += 0.6;
                    b[3] -= 0.8;
                } else {
                    b[2] = Math.min(12.0, b[2] + 0.1);
                }
                b[1] += 1.0;
            }
            years++;
            source = oldest();
            may = source < 0 ? 0.0 : 0.25 * held[source][0];
            return sum;
        }

        int oldest() {
            int best = -1;
            for (int i = count - 1; i >= 0; i--) {
                if (held[i][0] > 0.0 && (best < 0 || held[i][1] > held[best][1])) {
                    best = i;
                }
            }
            return best;
        }

        int drawable() {
            int from = oldest();
            if (years == 0 || from < 0 || from != source || held[from][1] < 12.0 || held[from][3] < 25.0) {
                return 0;
            }
            return (int) (Math.min(may, held[from][0]) / 0.1);
        }

        int draw(int bottles) {
            int n = Math.min(bottles, drawable());
            if (n > 0) {
                double age = held[source][1];
                drawn[age < 18.0 ? 0 : age < 25.0 ? 1 : 2] += n;
                may -= n * 0.1;
                take(source, n * 0.1);
            }
            return n;
        }

        double pourAway(int barrel) {
            double litres = held[barrel][0];
            held[barrel] = new double[4];
            return litres;
        }

        double mean(int what) {
            double sum = 0.0;
            double litres = 0.0;
            for (int i = 0; i < count; i++) {
                sum += held[i][0] * held[i][what];
                litres += held[i][0];
            }
            return litres == 0.0 ? 0.0 : sum / litres;
        }

        double taste(int barrel) {
            double[] b = held[barrel];
            return b[0] == 0.0 ? 0.0 : 0.5 * b[1] + 0.8 * b[3] - 3.0 * Math.abs(b[2] - 6.0);
        }

        int firstBottleIn() {
            Model ahead = copy();
            for (int i = 0; i <= 60; i++) {
                if (ahead.drawable() > 0) {
                    return i;
                }
                ahead.fill(100.0);
                ahead.topUp();
                ahead.year();
            }
            return -1;
        }
    }

    public static void main(String[] args) {
        long bottles = 0;
        for (int run = 0; run < RUNS; run++) {
            VinegarLoft loft = new VinegarLoft();
            Model model = new Model();
            int barrels = pick(9);
            for (int call = 0; call < CALLS; call++) {
                oneCall("run " + run + ", call " + call + ": ", loft, model, barrels);
            }
            compareAll("end of run " + run + ": ", loft, model);
            bottles += model.drawn[0] + model.drawn[1] + model.drawn[2];
        }
        Check.that("bottles were drawn", bottles > RUNS ? 1 : 0, 1);
        Check.end();
    }

    private static void oneCall(String at, VinegarLoft loft, Model model, int barrels) {
        int what = pick(100);
        if (model.count < barrels && what < 60) {
            addOne(at, loft, model);
        } else if (what < 12) {
            int litres = 1 + pick(100);
            Check.that(at + "fill", loft.fill(litres), model.fill(litres));
        } else if (what < 26) {
            Check.that(at + "topUp", loft.topUp(), model.topUp());
        } else if (what < 70) {
            Check.that(at + "year", loft.year(), model.year());
        } else if (what < 78) {
            int bottles = 1 + pick(pick(4) == 0 ? 1000 : 20);
            Check.that(at + "draw", loft.draw(bottles), model.draw(bottles));
        } else if (what < 79 && model.count > 0) {
            int barrel = pick(model.count);
            Check.that(at + "pourAway", loft.pourAway(barrel), model.pourAway(barrel));
        } else if (what < 81) {
            model.warmth = pick(41);
            loft.setWarmth(model.warmth);
        } else if (what < 83) {
            Check.that(at + "firstBottleIn", loft.firstBottleIn(), model.firstBottleIn());
        } else if (what < 87 && model.count > 0) {
            compareOne(at, loft, model, pick(model.count));
        } else if (what < 92) {
            compareMeans(at, loft, model);
        } else {
            Check.that(at + "drawable", loft.drawable(), model.drawable());
        }
    }

    private static void addOne(String at, VinegarLoft loft, Model model) {
        int wood = pick(4);
        int largest = model.count == 0 ? 100 : model.size[model.count - 1] - 1;
        if (largest < 10) {
            return;
        }
        int size = Math.max(10, largest - pick(12));
        Check.that(at + "add", loft.add(wood, size), model.count);
        model.wood[model.count] = wood;
        model.size[model.count] = size;
        model.count++;
    }

    private static void compareAll(String at, VinegarLoft loft, Model model) {
        Check.that(at + "barrels", loft.barrels(), model.count);
        Check.that(at + "oldest", loft.oldest(), model.oldest());
        Check.that(at + "drawable", loft.drawable(), model.drawable());
        Check.that(at + "years", loft.years(), model.years);
        Check.that(at + "meanAge", loft.meanAge(), model.mean(1));
        Check.that(at + "meanSugar", loft.meanSugar(), model.mean(3));
        for (int kind = 0; kind < 3; kind++) {
            Check.that(at + "bottles " + kind, loft.bottles(kind), model.drawn[kind]);
        }
        for (int i = 0; i < model.count; i++) {
            Check.that(at + "litresIn " + i, loft.litresIn(i), model.held[i][0]);
            Check.that(at + "ageOf " + i, loft.ageOf(i), model.held[i][1]);
            Check.that(at + "acidOf " + i, loft.acidOf(i), model.held[i][2]);
            Check.that(at + "sugarOf " + i, loft.sugarOf(i), model.held[i][3]);
            Check.that(at + "tasteOf " + i, loft.tasteOf(i), model.taste(i));
        }
    }

    private static void compareOne(String at, VinegarLoft loft, Model model, int barrel) {
        switch (pick(5)) {
            case 0:
                Check.that(at + "litresIn " + barrel, loft.litresIn(barrel), model.held[barrel][0]);
                break;
            case 1:
                Check.that(at + "ageOf " + barrel, loft.ageOf(barrel), model.held[barrel][1]);
                break;
            case 2:
                Check.that(at + "acidOf " + barrel, loft.acidOf(barrel), model.held[barrel][2]);
                break;
            case 3:
                Check.that(at + "sugarOf " + barrel, loft.sugarOf(barrel), model.held[barrel][3]);
                break;
            default:
                Check.that(at + "tasteOf " + barrel, loft.tasteOf(barrel), model.taste(barrel));
                break;
        }
    }

    private static void compareMeans(String at, VinegarLoft loft, Model model) {
        switch (pick(3)) {
            case 0:
                Check.that(at + "meanAge", loft.meanAge(), model.mean(1));
                break;
            case 1:
                Check.that(at + "meanSugar", loft.meanSugar(), model.mean(3));
                break;
            default:
                Check.that(at + "oldest", loft.oldest(), model.oldest());
                break;
        }
    }
}
