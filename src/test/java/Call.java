import java.util.Arrays;
import java.util.Locale;

/** Every call of the face, so that a test can go through all of them and through all their places. */
enum Call {
    PRIME(1), SIZE(1), MODULUS(1), PLUS(3), TIMES(3), OVER(2), RAISE(3), SIGN(2), TURNS(2), TRACE(2),
    FORMS(4), CURVE(3), KNOT(0), ABOUT(2), VALUE(3), COUNT(2), BEYOND(2), SHARE(2), FURTHER(2),
    WHOLE(1), BOUND(1), SURFACE(3), BEST(3), IS_CLASS(3), CLASSES(1), CLASS_AT(3), ADD(3), MINUS(2),
    ORDER(2), TOLD(1), TRACED(0);

    /** How many numbers it takes. */
    final int places;

    Call(int places) {
        this.places = places;
    }

    /** The call of a name of the face. */
    static Call named(String name) {
        for (Call call : values()) {
            if (call.written().equals(name)) {
                return call;
            }
        }
        throw new IllegalArgumentException("no call " + name);
    }

    /** Its name in the face. */
    String written() {
        return switch (this) {
            case IS_CLASS -> "isClass";
            case CLASS_AT -> "classAt";
            default -> name().toLowerCase(Locale.ROOT);
        };
    }

    /** Itself with numbers, as it is written in a program. */
    String said(int... numbers) {
        String list = Arrays.toString(numbers);
        return written() + "(" + list.substring(1, list.length() - 1) + ")";
    }

    /** What it answers where a number is BAD. */
    long refusal() {
        return this == SIGN || this == SHARE ? FieldCounts.NO : FieldCounts.BAD;
    }

    long ask(FieldCounts x, int... a) {
        return ordinal() < CURVE.ordinal() ? askFields(x, a)
                : ordinal() < IS_CLASS.ordinal() ? askCurves(x, a) : askRest(x, a);
    }

    private long askFields(FieldCounts x, int[] a) {
        return switch (this) {
            case PRIME -> x.prime(a[0]);
            case SIZE -> x.size(a[0]);
            case MODULUS -> x.modulus(a[0]);
            case PLUS -> x.plus(a[0], a[1], a[2]);
            case TIMES -> x.times(a[0], a[1], a[2]);
            case OVER -> x.over(a[0], a[1]);
            case RAISE -> x.raise(a[0], a[1], a[2]);
            case SIGN -> x.sign(a[0], a[1]);
            case TURNS -> x.turns(a[0], a[1]);
            case TRACE -> x.trace(a[0], a[1]);
            case FORMS -> x.forms(a[0], a[1], a[2], a[3]);
            default -> throw new IllegalStateException(name());
        };
    }

    private long askCurves(FieldCounts x, int[] a) {
        return switch (this) {
            case CURVE -> x.curve(a[0], a[1], a[2]);
            case KNOT -> x.knot();
            case ABOUT -> x.about(a[0], a[1]);
            case VALUE -> x.value(a[0], a[1], a[2]);
            case COUNT -> x.count(a[0], a[1]);
            case BEYOND -> x.beyond(a[0], a[1]);
            case SHARE -> x.share(a[0], a[1]);
            case FURTHER -> x.further(a[0], a[1]);
            case WHOLE -> x.whole(a[0]);
            case BOUND -> x.bound(a[0]);
            case SURFACE -> x.surface(a[0], a[1], a[2]);
            case BEST -> x.best(a[0], a[1], a[2]);
            default -> throw new IllegalStateException(name());
        };
    }

    private long askRest(FieldCounts x, int[] a) {
        return switch (this) {
            case IS_CLASS -> x.isClass(a[0], a[1], a[2]);
            case CLASSES -> x.classes(a[0]);
            case CLASS_AT -> x.classAt(a[0], a[1], a[2]);
            case ADD -> x.add(a[0], a[1], a[2]);
            case MINUS -> x.minus(a[0], a[1]);
            case ORDER -> x.order(a[0], a[1]);
            case TOLD -> x.told(a[0]);
            case TRACED -> x.traced();
            default -> throw new IllegalStateException(name());
        };
    }
}
