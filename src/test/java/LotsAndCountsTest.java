/** Promises 19 to 21: seed, draw, count. */
public final class LotsAndCountsTest {
    private static final int BAD = ClassAnswers.BAD;
    private static final int NO = ClassAnswers.NO;
    private static final int NONE = ClassAnswers.NONE;

    public static void main(String[] args) {
        promise19Seed();
        promise19SeedBeginsAnew();
        promise20DrawRefusals();
        promise20Draw();
        promise20LateBoxes();
        promise21Count();
        Check.end();
    }

    private static void promise19Seed() {
        ClassAnswers x = new ClassAnswers();
        Check.due("seed(0)", x.seed(0), BAD);
        Check.due("seed(-1)", x.seed(-1), BAD);
        Check.due("seed(MIN)", x.seed(Integer.MIN_VALUE), BAD);
        Check.due("seed(2147483647)", x.seed(2147483647), BAD);
        Check.due("draw(): a BAD seed is not told", x.draw(), NO);
        Check.due("seed(1) without a box", x.seed(1), 0);
        x.box();
        x.box();
        Check.due("seed(2147483646)", x.seed(2147483646), 2);
    }

    private static void promise19SeedBeginsAnew() {
        ClassAnswers x = Check.withBoxes(7);
        x.seed(99);
        int[] first = new int[7];
        for (int i = 0; i < 7; i++) {
            first[i] = x.draw();
        }
        Check.due("draw()", x.draw(), NONE);
        Check.due("seed(0) changes nothing", x.seed(0), BAD);
        Check.due("draw()", x.draw(), NONE);
        Check.due("seed(99)", x.seed(99), 7);
        for (int i = 0; i < 7; i++) {
            Check.due("draw() as before", x.draw(), first[i]);
        }
    }

    private static void promise20DrawRefusals() {
        ClassAnswers x = new ClassAnswers();
        Check.due("draw(): no seed, no box", x.draw(), NO);
        x.box();
        Check.due("draw(): no seed", x.draw(), NO);
        ClassAnswers y = new ClassAnswers();
        y.seed(5);
        Check.due("draw() without a box", y.draw(), NONE);
    }

    private static void promise20Draw() {
        int[] seeds = {1, 2, 48271, 1234567890, 2147483646};
        for (int seed : seeds) {
            ClassAnswers x = Check.withBoxes(16);
            Check.due("seed(" + seed + ")", x.seed(seed), 16);
            java.util.List<Integer> left = new java.util.ArrayList<>();
            for (int i = 0; i < 16; i++) {
                left.add(i);
            }
            java.math.BigInteger state = java.math.BigInteger.valueOf(seed);
            for (int i = 16; i >= 1; i--) {
                state = state.multiply(java.math.BigInteger.valueOf(48271))
                        .mod(java.math.BigInteger.valueOf(2147483647));
                int at = state.mod(java.math.BigInteger.valueOf(i)).intValue();
                Check.due("draw()", x.draw(), left.remove(at));
            }
            Check.due("draw()", x.draw(), NONE);
            Check.due("draw()", x.draw(), NONE);
        }
    }

    private static void promise20LateBoxes() {
        ClassAnswers x = Check.withBoxes(1);
        x.seed(3);
        Check.due("draw()", x.draw(), 0);
        Check.due("draw()", x.draw(), NONE);
        x.box();
        x.box();
        // The second lot: 3 * 48271 * 48271 modulo 2147483647 is 547817382, an even number.
        Check.due("draw(): NONE was no lot", x.draw(), 1);
        Check.due("draw()", x.draw(), 2);
        Check.due("draw()", x.draw(), NONE);
    }

    private static void promise21Count() {
        ClassAnswers x = Check.withBoxes(3);
        Check.due("count(-1)", x.count(-1), BAD);
        Check.due("count(6)", x.count(6), BAD);
        Check.due("count(MAX)", x.count(Integer.MAX_VALUE), BAD);
        Check.due("count(MIN)", x.count(Integer.MIN_VALUE), BAD);
        x.road(0, 0, 0, 3);
        x.road(0, 1, 65535, 3);
        x.road(1, 1, 0, 2);
        x.ask(0, 0, 2);
        x.send(0, 1);
        x.send(1, 1);
        x.ticks(2);
        int[] due = {3, 2, 0, 1, 3, 6};
        for (int what = 0; what <= 5; what++) {
            Check.due("count(" + what + ")", x.count(what), due[what]);
        }
        x.close(1);
        int[] dueThen = {3, 2, 1, 0, 0, 6};
        for (int what = 0; what <= 5; what++) {
            Check.due("count(" + what + ")", x.count(what), dueThen[what]);
        }
        x.ask(1, 0, 9);
        x.send(2, 1);
        x.ticks(3);
        int[] dueLast = {3, 5, 1, 1, 0, 8};
        for (int what = 0; what <= 5; what++) {
            Check.due("count(" + what + ")", x.count(what), dueLast[what]);
        }
    }
}
