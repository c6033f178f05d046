/** All that a loft answers without being changed, to the last bit. */
final class Answers {
    private Answers() {
    }

    static String of(VinegarLoft loft) {
        StringBuilder text = new StringBuilder();
        for (int barrel = 0; barrel < loft.barrels(); barrel++) {
            text.append("barrel ").append(barrel);
            text.append(": ").append(loft.litresIn(barrel)).append(' ').append(loft.ageOf(barrel));
            text.append(' ').append(loft.acidOf(barrel)).append(' ').append(loft.sugarOf(barrel));
            text.append(' ').append(loft.tasteOf(barrel)).append("; ");
        }
        text.append("oldest ").append(loft.oldest()).append(", drawable ").append(loft.drawable());
        for (int kind = 0; kind < 3; kind++) {
            text.append(", bottles ").append(loft.bottles(kind));
        }
        text.append(", years ").append(loft.years()).append(", meanAge ").append(loft.meanAge());
        text.append(", meanSugar ").append(loft.meanSugar());
        return text.toString();
    }

    /** A loft of three woods with bottles drawn and more to be drawn, and a warmth of its own. */
    static VinegarLoft wellUsed() {
        VinegarLoft loft = new VinegarLoft();
        loft.add(1, 90);
        loft.add(3, 61);
        loft.add(2, 37);
        loft.setWarmth(25);
        for (int i = 0; i < 20; i++) {
            loft.fill(23);
            loft.topUp();
            loft.year();
        }
        loft.draw(7);
        loft.fill(3);
        return loft;
    }
}
