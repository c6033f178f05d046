import java.lang.reflect.Constructor;
import java.lang.reflect.Field;
import java.lang.reflect.Method;
import java.lang.reflect.Modifier;
import java.util.TreeSet;

/** The public face, the constants, and promise 1: a new object. */
public final class FaceTest {
    private static final String[] METHODS = {
        "int add(int,int) throws IllegalArgumentException,IllegalStateException",
        "double fill(int) throws IllegalArgumentException",
        "double topUp()",
        "double year()",
        "int draw(int) throws IllegalArgumentException",
        "double pourAway(int) throws IndexOutOfBoundsException",
        "void setWarmth(int) throws IllegalArgumentException",
        "int barrels()",
        "double litresIn(int) throws IndexOutOfBoundsException",
        "double ageOf(int) throws IndexOutOfBoundsException",
        "double acidOf(int) throws IndexOutOfBoundsException",
        "double sugarOf(int) throws IndexOutOfBoundsException",
        "double tasteOf(int) throws IndexOutOfBoundsException",
        "int oldest()",
        "int drawable()",
        "int bottles(int) throws IllegalArgumentException",
        "int years()",
        "double meanAge()",
        "double meanSugar()",
        "int firstBottleIn()",
    };

    public static void main(String[] args) {
        theMethodsAreThoseOfTheDocument();
        theConstantsAreThoseOfTheDocument();
        theClassIsPublicAndFinal();
        aNewLoftIsBare();
        twoLoftsShareNothing();
        Check.end();
    }

    private static void theMethodsAreThoseOfTheDocument() {
        TreeSet<String> due = new TreeSet<>();
        for (String method : METHODS) {
            due.add(method);
        }
        TreeSet<String> got = new TreeSet<>();
        for (Method method : VinegarLoft.class.getDeclaredMethods()) {
            if (!Modifier.isPrivate(method.getModifiers()) && !method.isSynthetic()) {
                got.add(told(method));
            }
        }
        Check.that("methods", got.toString(), due.toString());
    }

    private static String told(Method method) {
        String text = method.getReturnType().getSimpleName() + " " + method.getName() + "("
            + names(method.getParameterTypes()) + ")";
        String thrown = names(method.getExceptionTypes());
        return thrown.isEmpty() ? text : text + " throws " + thrown;
    }

    private static String names(Class<?>[] types) {
        StringBuilder text = new StringBuilder();
        for (Class<?> type : types) {
            text.append(text.length() == 0 ? "" : ",").append(type.getSimpleName());
        }
        return text.toString();
    }

    private static void theConstantsAreThoseOfTheDocument() {
        TreeSet<String> got = new TreeSet<>();
        for (Field field : VinegarLoft.class.getDeclaredFields()) {
            if (!Modifier.isPrivate(field.getModifiers())) {
                got.add(Modifier.toString(field.getModifiers()) + " " + field.getName());
            }
        }
        Check.that("constants", got.toString(),
            "[public static final OLD, public static final RIPE, public static final YOUNG]");
        Check.that("YOUNG", VinegarLoft.YOUNG, 0);
        Check.that("RIPE", VinegarLoft.RIPE, 1);
        Check.that("OLD", VinegarLoft.OLD, 2);
    }

    private static void theClassIsPublicAndFinal() {
        Check.that("class", Modifier.toString(VinegarLoft.class.getModifiers()), "public final");
        Constructor<?>[] made = VinegarLoft.class.getDeclaredConstructors();
        Check.that("constructors", made.length, 1);
        Check.that("constructor's parameters", made[0].getParameterCount(), 0);
        Check.that("constructor", Modifier.toString(made[0].getModifiers()), "public");
    }

    private static void aNewLoftIsBare() {
        VinegarLoft loft = new VinegarLoft();
        Check.that("new: barrels()", loft.barrels(), 0);
        Check.that("new: years()", loft.years(), 0);
        Check.that("new: oldest()", loft.oldest(), -1);
        Check.that("new: drawable()", loft.drawable(), 0);
        Check.that("new: draw(1)", loft.draw(1), 0);
        Check.that("new: meanAge()", loft.meanAge(), 0.0);
        Check.that("new: meanSugar()", loft.meanSugar(), 0.0);
        Check.that("new: topUp()", loft.topUp(), 0.0);
        Check.that("new: fill(100)", loft.fill(100), 0.0);
        Check.that("new: firstBottleIn()", loft.firstBottleIn(), -1);
        for (int kind = VinegarLoft.YOUNG; kind <= VinegarLoft.OLD; kind++) {
            Check.that("new: bottles(" + kind + ")", loft.bottles(kind), 0);
        }
        Check.throwing("new: litresIn(0)", IndexOutOfBoundsException.class, () -> loft.litresIn(0));
    }

    private static void twoLoftsShareNothing() {
        VinegarLoft one = new VinegarLoft();
        VinegarLoft other = new VinegarLoft();
        one.add(0, 50);
        one.fill(50);
        one.year();
        Check.that("other loft: barrels()", other.barrels(), 0);
        Check.that("other loft: years()", other.years(), 0);
    }
}
