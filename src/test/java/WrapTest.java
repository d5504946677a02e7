import java.util.List;

/** "All arithmetic is that of ints and wraps": each operation beside and beyond the ends of the ints. */
public final class WrapTest {
    private static final int MIN = Integer.MIN_VALUE;
    private static final int MAX = Integer.MAX_VALUE;
    private static final int SUM = 0;
    private static final int DIFFERENCE = 1;
    private static final int PRODUCT = 2;

    public static void main(String[] args) {
        sums();
        differences();
        products();
        squares();
        weightTimesValue();
        sumOfTerms();
        slopeOfSum();
        slopeOfDifference();
        slopeOfProduct();
        slopeOfSquare();
        weightTimesSlope();
        sumOfSlopes();
        momentumTimesSlope();
        sumOfDrift();
        targetElsewhere();
        positionsInLeap();
        momentaInFirstHalf();
        momentaInSecondHalf();
        slopeWrapsBeforeShift();
        answerOfLeap();
        signOfLeast();
        thereAndBack();
        Due.end();
    }

    /** The nodes x0, x1 and one made of them, at these positions of chain 1. */
    private static TapeSampler combined(int kind, int x0, int x1) {
        TapeSampler s = new TapeSampler();
        s.parameter(0);
        s.parameter(1);
        s.combine(kind, 0, 1);
        s.place(1, 0, x0);
        s.place(1, 1, x1);
        return s;
    }

    private static void value(int kind, int a, int b, int due) {
        Due.is("value of kind " + kind + " of " + a + " and " + b, combined(kind, a, b).valueOf(1, 2), due);
    }

    private static void sums() {
        value(SUM, MAX, 0, MAX);
        value(SUM, MAX, 1, MIN);
        value(SUM, MAX, MAX, -2);
        value(SUM, MIN, 0, MIN);
        value(SUM, MIN, -1, MAX);
        value(SUM, MIN, MIN, 0);
        value(SUM, MAX, MIN, -1);
    }

    private static void differences() {
        value(DIFFERENCE, MIN, 0, MIN);
        value(DIFFERENCE, MIN, 1, MAX);
        value(DIFFERENCE, MAX, -1, MIN);
        value(DIFFERENCE, -1, MIN, MAX);
        value(DIFFERENCE, 0, MIN, MIN);
        value(DIFFERENCE, MIN, MAX, 1);
        value(DIFFERENCE, MIN, MIN, 0);
    }

    private static void products() {
        value(PRODUCT, 46340, 46341, 2147441940);
        value(PRODUCT, 46341, 46341, -2147479015);
        value(PRODUCT, 65536, 32767, 2147418112);
        value(PRODUCT, 65536, 32768, MIN);
        value(PRODUCT, 65536, -32768, MIN);
        value(PRODUCT, 65536, -32769, 2147418112);
        value(PRODUCT, 65536, 65536, 0);
        value(PRODUCT, MIN, -1, MIN);
        value(PRODUCT, MIN, MIN, 0);
        value(PRODUCT, MAX, MAX, 1);
        value(PRODUCT, MAX, MIN, MIN);
        value(PRODUCT, MAX, 2, -2);
    }

    private static void square(int a, int due) {
        TapeSampler s = new TapeSampler();
        s.constant(a);
        s.square(0);
        Due.is("square of " + a, s.valueOf(0, 1), due);
    }

    private static void squares() {
        square(46340, 2147395600);
        square(-46340, 2147395600);
        square(46341, -2147479015);
        square(-46341, -2147479015);
        square(65536, 0);
        square(65537, 131073);
        square(MAX, 1);
        square(MIN, 0);
        square(MIN + 1, 1);
    }

    /** The target c * weight. */
    private static void weighed(int weight, int c, int due) {
        TapeSampler s = new TapeSampler();
        s.constant(c);
        s.term(0, weight);
        Due.is("weight " + weight + " times value " + c, s.target(2), due);
    }

    private static void weightTimesValue() {
        weighed(20, 107374182, 2147483640);
        weighed(20, 107374183, -2147483636);
        weighed(-20, 107374182, -2147483640);
        weighed(-20, 107374183, 2147483636);
        weighed(-1, MAX, MIN + 1);
        weighed(-1, MIN, MIN);
        weighed(2, MIN, 0);
        weighed(20, MAX, -20);
        weighed(0, MIN, 0);
    }

    private static void sumOfTerms() {
        TapeSampler s = new TapeSampler();
        s.constant(MAX);
        s.constant(1);
        s.term(0, 1);
        Due.is("target at the end", s.target(0), MAX);
        s.term(1, 1);
        Due.is("target beyond the end", s.target(0), MIN);
        s.term(1, -1);
        Due.is("target comes back", s.target(0), MAX);
        TapeSampler full = new TapeSampler();
        full.constant(13421773);
        int[] due = {268435460, 536870920, 805306380, 1073741840, 1342177300, 1610612760, 1879048220, -2147483616};
        for (int t = 0; t < 8; t++) {
            full.term(0, 20);
            Due.is("sum of " + (t + 1) + " terms", full.target(0), due[t]);
        }
    }

    /** The slope along x0 of kind(c * x0, d * x0). */
    private static void slope(int kind, int c, int d, int x0, int due) {
        TapeSampler s = new TapeSampler();
        s.parameter(0);
        s.constant(c);
        s.constant(d);
        s.combine(PRODUCT, 1, 0);
        s.combine(PRODUCT, 0, 2);
        s.combine(kind, 3, 4);
        s.term(5, 1);
        s.place(0, 0, x0);
        Due.is("slope of kind " + kind + " of " + c + " * x and " + d + " * x at " + x0, s.slope(0, 0), due);
    }

    private static void slopeOfSum() {
        slope(SUM, MAX, 0, 0, MAX);
        slope(SUM, MAX, 1, 0, MIN);
        slope(SUM, MIN, -1, 0, MAX);
        slope(SUM, MIN, MIN, 0, 0);
    }

    private static void slopeOfDifference() {
        slope(DIFFERENCE, MIN, 0, 0, MIN);
        slope(DIFFERENCE, MIN, 1, 0, MAX);
        slope(DIFFERENCE, 0, MIN, 0, MIN);
        slope(DIFFERENCE, MAX, -1, 0, MIN);
    }

    private static void slopeOfProduct() {
        slope(PRODUCT, 1, 1, 1073741823, 2147483646);
        slope(PRODUCT, 1, 1, 1073741824, MIN);
        slope(PRODUCT, 1, 1, -1073741824, MIN);
        slope(PRODUCT, 1, 1, -1073741825, 2147483646);
        slope(PRODUCT, 1, 1, MAX, -2);
        slope(PRODUCT, 1, 1, MIN, 0);
        slope(PRODUCT, 65536, 32768, 1, 0);
        slope(PRODUCT, 46341, 46341, 1, 9266);
        slopeOfOneFactor(65536, 32767, 2147418112);
        slopeOfOneFactor(65536, 32768, MIN);
        slopeOfOneFactor(-65536, 32769, 2147418112);
        slopeOfOneFactor(MAX, MAX, 1);
    }

    /** The slope along x0 of (c * x0) * x1 and of x1 * (c * x0) where x1 is d. */
    private static void slopeOfOneFactor(int c, int d, int due) {
        TapeSampler s = combined(PRODUCT, 5, d);
        s.constant(c);
        s.combine(PRODUCT, 0, 3);
        s.combine(PRODUCT, 4, 1);
        s.combine(PRODUCT, 1, 4);
        s.term(5, 1);
        Due.is("slope of a, " + c + ", times b, " + d, s.slope(1, 0), due);
        s.term(5, -1);
        s.term(6, 1);
        Due.is("a, " + d + ", times slope of b, " + c, s.slope(1, 0), due);
    }

    /** The slope along x0 of the square of c * x0. */
    private static void slopeOfSquareAt(int c, int x0, int due) {
        TapeSampler s = new TapeSampler();
        s.parameter(0);
        s.constant(c);
        s.combine(PRODUCT, 0, 1);
        s.square(2);
        s.term(3, 1);
        s.place(2, 0, x0);
        Due.is("slope of the square of " + c + " * x at " + x0, s.slope(2, 0), due);
    }

    private static void slopeOfSquare() {
        slopeOfSquareAt(1, 1073741823, 2147483646);
        slopeOfSquareAt(1, 1073741824, MIN);
        slopeOfSquareAt(1, -1073741824, MIN);
        slopeOfSquareAt(1, -1073741825, 2147483646);
        slopeOfSquareAt(1, MAX, -2);
        slopeOfSquareAt(1, MIN, 0);
        slopeOfSquareAt(32767, 1, 2147352578);
        slopeOfSquareAt(32768, 1, MIN);
        slopeOfSquareAt(46341, 1, 9266);
        slopeOfSquareAt(MAX, 1, 2);
        slopeOfSquareAt(MAX, 3, 6);
    }

    /** The slope of c * x0 with a weight. */
    private static void weighedSlope(int weight, int c, int due) {
        TapeSampler s = new TapeSampler();
        s.parameter(0);
        s.constant(c);
        s.combine(PRODUCT, 0, 1);
        s.term(2, weight);
        Due.is("weight " + weight + " times slope " + c, s.slope(0, 0), due);
    }

    private static void weightTimesSlope() {
        weighedSlope(20, 107374182, 2147483640);
        weighedSlope(20, 107374183, -2147483636);
        weighedSlope(-20, 107374182, -2147483640);
        weighedSlope(-20, 107374183, 2147483636);
        weighedSlope(-1, MIN, MIN);
        weighedSlope(2, MIN, 0);
    }

    private static void sumOfSlopes() {
        TapeSampler s = new TapeSampler();
        s.parameter(2);
        s.constant(MAX);
        s.combine(PRODUCT, 0, 1);
        s.term(2, 1);
        Due.is("slope at the end", s.slope(0, 2), MAX);
        s.term(0, 1);
        Due.is("slope beyond the end", s.slope(0, 2), MIN);
        s.term(0, -1);
        Due.is("slope comes back", s.slope(0, 2), MAX);
    }

    private static void momentumTimesSlope() {
        int[] momenta = {107374182, 107374183, -107374182, -107374183, MIN, MAX};
        int[] due = {2147483640, -2147483636, -2147483640, 2147483636, 0, -20};
        for (int n = 0; n < momenta.length; n++) {
            TapeSampler s = new TapeSampler();
            s.parameter(3);
            s.term(0, 20);
            s.push(2, 3, momenta[n]);
            Due.is("drift of slope 20 and momentum " + momenta[n], s.drift(2), due[n]);
        }
    }

    private static void sumOfDrift() {
        TapeSampler s = new TapeSampler();
        for (int i = 0; i < 4; i++) {
            s.parameter(i);
            s.term(i, 1);
        }
        s.push(0, 0, MAX);
        Due.is("drift at the end", s.drift(0), MAX);
        s.push(0, 3, 1);
        Due.is("drift beyond the end", s.drift(0), MIN);
        s.push(0, 1, MIN);
        s.push(0, 2, MIN);
        Due.is("drift goes round", s.drift(0), MIN);
        s.push(0, 1, 0);
        Due.is("drift of half a round", s.drift(0), 0);
    }

    private static void targetElsewhere() {
        TapeSampler s = combined(PRODUCT, 1, 32768);
        s.term(2, 1);
        Due.is("targetAt below the end", s.targetAt(1, 0, 65535), 2147450880);
        Due.is("targetAt beyond the end", s.targetAt(1, 0, 65536), MIN);
        Due.is("targetAt the greatest", s.targetAt(1, 1, MAX), MAX);
        Due.is("targetAt the least", s.targetAt(1, 1, MIN), MIN);
        s.term(2, 1);
        Due.is("targetAt twice the greatest", s.targetAt(1, 1, MAX), -2);
        Due.is("targetAt twice the least", s.targetAt(1, 1, MIN), 0);
    }

    /** One leap without a model: x becomes x + m. */
    private static void glides(int x, int m, int due) {
        TapeSampler s = new TapeSampler();
        s.place(0, 3, x);
        s.push(0, 3, m);
        s.leap(0, 1);
        Due.is("position " + x + " and momentum " + m, s.position(0, 3), due);
        Due.is("the momentum stays", s.momentum(0, 3), m);
    }

    private static void positionsInLeap() {
        glides(MAX, 0, MAX);
        glides(MAX - 1, 1, MAX);
        glides(MAX, 1, MIN);
        glides(MIN, -1, MAX);
        glides(MIN, MIN, 0);
        glides(MAX, MAX, -2);
    }

    /** The target weight * x0: the momentum is kicked by the weight, twice in a leap. */
    private static void kicks(int weight, int m, int x, int after) {
        TapeSampler s = new TapeSampler();
        s.parameter(0);
        s.term(0, weight);
        s.push(1, 0, m);
        s.leap(1, 1);
        Due.is("momentum " + m + " kicked by " + weight + " once", s.position(1, 0), x);
        Due.is("momentum " + m + " kicked by " + weight + " twice", s.momentum(1, 0), after);
    }

    private static void momentaInFirstHalf() {
        kicks(1, MAX, MIN, MIN + 1);
        kicks(-1, MIN, MAX, MAX - 1);
        kicks(20, MAX, MIN + 19, MIN + 39);
        kicks(-20, MIN, MAX - 19, MAX - 39);
    }

    private static void momentaInSecondHalf() {
        kicks(1, MAX - 2, MAX - 1, MAX);
        kicks(1, MAX - 1, MAX, MIN);
        kicks(-1, MIN + 2, MIN + 1, MIN);
        kicks(-1, MIN + 1, MIN, MAX);
    }

    private static void slopeWrapsBeforeShift() {
        TapeSampler s = new TapeSampler();
        s.parameter(0);
        s.square(0);
        s.term(1, 1);
        s.shift(20);
        s.place(0, 0, 1073741824);
        s.leap(0, 1);
        // The slope wraps to the least int, -2048 shifted; at the new place it is 2^31 - 4096, 2047 shifted.
        Due.is("the wrapped slope moves down", s.position(0, 0), 1073739776);
        Due.is("the second slope does not wrap", s.momentum(0, 0), -1);
        s.place(1, 0, 1073741823);
        s.leap(1, 1);
        // The slope 2^31 - 2 is 2047 shifted; at the new place it wraps to -2^31 + 4092, -2048 shifted.
        Due.is("the slope below the end moves up", s.position(1, 0), 1073743870);
        Due.is("the second slope wraps", s.momentum(1, 0), -1);
        s.place(2, 0, MAX);
        s.leap(2, 1);
        Due.is("twice the greatest is -2, -1 shifted", s.position(2, 0), MAX - 1);
        Due.is("and -4, -1 shifted", s.momentum(2, 0), -2);
    }

    private static void answerOfLeap() {
        TapeSampler s = combined(PRODUCT, 46341, 46341);
        s.term(2, 1);
        Due.is("low bits of -2147479015", s.leap(1, 0), 25);
        s.place(1, 0, MAX);
        s.place(1, 1, MAX);
        Due.is("low bits of 1", s.leap(1, 0), 1);
        s.term(2, -2);
        Due.is("low bits of -1", s.leap(1, 0), 255);
    }

    private static void signOfLeast() {
        TapeSampler s = new TapeSampler();
        s.push(0, 0, MIN);
        s.push(0, 1, MAX);
        s.turn(0);
        Due.is("the least int has no other sign", s.momentum(0, 0), MIN);
        Due.is("the greatest int has", s.momentum(0, 1), MIN + 1);
        s.turn(0);
        Due.is("turned twice", s.momentum(0, 0), MIN);
        Due.is("turned twice", s.momentum(0, 1), MAX);
    }

    private static void thereAndBack() {
        for (int chain = 0; chain < 3; chain++) {
            Call leap = new Call("leap", chain, 40);
            Call turn = new Call("turn", chain);
            Edge.changeNothing("40 leaps that wrap, and back", State.FULL, List.of(leap, turn, leap, turn));
        }
    }
}
