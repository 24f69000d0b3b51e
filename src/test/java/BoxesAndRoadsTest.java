/** Promises 1 to 4: a new object, box, road, rule. */
public final class BoxesAndRoadsTest {
    private static final int BAD = ClassAnswers.BAD;
    private static final int NO = ClassAnswers.NO;
    private static final int FULL = ClassAnswers.FULL;
    private static final int NONE = ClassAnswers.NONE;

    public static void main(String[] args) {
        constants();
        promise1NewObject();
        promise2Box();
        promise2BoxWhileAsked();
        promise3RoadBad();
        promise3RoadRowIsTakenAgain();
        promise3RoadBeginsAtBit0();
        promise3RoadKeepsItsPlaceAcrossQuestions();
        promise3DelayIsThatOfTheTry();
        promise4Rule();
        Check.end();
    }

    private static void constants() {
        Check.due("BAD", ClassAnswers.BAD, -1);
        Check.due("NO", ClassAnswers.NO, -2);
        Check.due("FULL", ClassAnswers.FULL, -3);
        Check.due("NONE", ClassAnswers.NONE, -4);
    }

    private static void promise1NewObject() {
        ClassAnswers x = new ClassAnswers();
        for (int what = 0; what <= 5; what++) {
            Check.due("new: count(" + what + ")", x.count(what), 0);
        }
        Check.due("new: about(0, 0)", x.about(0, 0), BAD);
        Check.due("new: answers()", x.answers(), NO);
        Check.due("new: best()", x.best(), NONE);
        Check.due("new: draw()", x.draw(), NO);
        Check.due("new: rule(0, 0)", x.rule(0, 0), 0);
        Check.due("new: rule(1, 0)", x.rule(1, 0), 0);
        ClassAnswers other = new ClassAnswers();
        Check.due("box()", x.box(), 0);
        Check.due("another object has its own boxes", other.count(0), 0);
    }

    private static void promise2Box() {
        ClassAnswers x = Check.withBoxes(16);
        Check.due("box() as the 17th", x.box(), FULL);
        Check.due("count(0)", x.count(0), 16);
        Check.due("ask(0, 0, 1)", x.ask(0, 0, 1), 0);
        Check.due("box(): NO ahead of FULL", x.box(), NO);
    }

    private static void promise2BoxWhileAsked() {
        ClassAnswers x = Check.withBoxes(1);
        Check.due("ask(0, 0, 1)", x.ask(0, 0, 1), 0);
        Check.due("box() while asked", x.box(), NO);
        Check.due("count(0)", x.count(0), 1);
        Check.due("ticks(1)", x.ticks(1), 1);
        Check.due("close(0)", x.close(0), 0);
        Check.due("box() behind close", x.box(), 1);
        Check.due("a late box has sent nothing", x.about(1, 0), 0);
        Check.due("a late box has no answer", x.about(1, 3), NONE);
        Check.due("a late box is in the book", x.book(0, 1), -1);
    }

    private static void promise3RoadBad() {
        ClassAnswers x = Check.withBoxes(2);
        Check.due("road(-1, 0, 0, 0)", x.road(-1, 0, 0, 0), BAD);
        Check.due("road(2, 0, 0, 0)", x.road(2, 0, 0, 0), BAD);
        Check.due("road(0, -1, 0, 0)", x.road(0, -1, 0, 0), BAD);
        Check.due("road(0, 2, 0, 0)", x.road(0, 2, 0, 0), BAD);
        Check.due("road(0, 0, -1, 0)", x.road(0, 0, -1, 0), BAD);
        Check.due("road(0, 0, 65536, 0)", x.road(0, 0, 65536, 0), BAD);
        Check.due("road(0, 0, 65535, -1)", x.road(0, 0, 65535, -1), BAD);
        Check.due("road(0, 0, 65535, 10)", x.road(0, 0, 65535, 10), BAD);
        Check.due("road(MIN, MIN, MIN, MIN)", x.road(Integer.MIN_VALUE, Integer.MIN_VALUE,
                Integer.MIN_VALUE, Integer.MIN_VALUE), BAD);
        Check.due("road(MAX, MAX, MAX, MAX)", x.road(Integer.MAX_VALUE, Integer.MAX_VALUE,
                Integer.MAX_VALUE, Integer.MAX_VALUE), BAD);
        x.ask(0, 0, 9);
        x.send(0, 4);
        x.ticks(1);
        Check.due("a BAD road changes nothing", x.base(0, 0, 0), 4);
        Check.due("road(1, 1, 65535, 9)", x.road(1, 1, 65535, 9), 0);
        Check.due("road(1, 1, 0, 0)", x.road(1, 1, 0, 0), 0);
    }

    /** Sends and lets one tick go by: whether base 0 got that letter. */
    private static boolean comesThrough(ClassAnswers x, int box) {
        int count = x.send(box, 1);
        x.ticks(1);
        return x.base(0, box, 3) == count;
    }

    private static void promise3RoadRowIsTakenAgain() {
        ClassAnswers x = Check.withBoxes(2);
        int bits = 0b1010_0110_0111_0001;
        x.road(1, 0, bits, 0);
        x.ask(0, 0, 1000);
        for (int i = 0; i < 40; i++) {
            boolean lost = (bits >> (i % 16) & 1) == 1;
            Check.holds("try " + i + " lost: " + lost, comesThrough(x, 1) != lost);
        }
        Check.holds("another box's road is another", comesThrough(x, 0));
    }

    private static void promise3RoadBeginsAtBit0() {
        ClassAnswers x = Check.withBoxes(1);
        x.road(0, 0, 0b0101, 0);
        x.ask(0, 0, 1000);
        Check.holds("bit 0 loses", !comesThrough(x, 0));
        Check.due("road() while asked", x.road(0, 0, 0b0101, 0), 0);
        Check.holds("bit 0 loses again", !comesThrough(x, 0));
        Check.holds("bit 1 does not", comesThrough(x, 0));
        Check.holds("bit 2 loses", !comesThrough(x, 0));
    }

    private static void promise3RoadKeepsItsPlaceAcrossQuestions() {
        ClassAnswers x = Check.withBoxes(1);
        x.road(0, 0, 0b0101, 0);
        x.ask(0, 0, 1);
        Check.holds("bit 0 loses", !comesThrough(x, 0));
        Check.due("close(1)", x.close(1), 1);
        x.ask(0, 0, 50);
        Check.holds("bit 1 does not", comesThrough(x, 0));
        Check.holds("bit 2 loses", !comesThrough(x, 0));
    }

    private static void promise3DelayIsThatOfTheTry() {
        ClassAnswers x = Check.withBoxes(1);
        x.road(0, 0, 0, 9);
        x.road(0, 1, 65535, 0);
        x.ask(0, 0, 100);
        x.send(0, 5);
        x.ticks(1);
        Check.due("count(4)", x.count(4), 1);
        x.road(0, 0, 65535, 0);
        x.ticks(8);
        Check.due("in tick 8 it has not come", x.about(0, 3), NONE);
        Check.due("count(4)", x.count(4), 1);
        x.ticks(1);
        Check.due("in tick 9 it comes", x.about(0, 3), 5);
        Check.due("count(4)", x.count(4), 0);
    }

    private static void promise4Rule() {
        ClassAnswers x = new ClassAnswers();
        Check.due("rule(0, 1)", x.rule(0, 1), 0);
        Check.due("rule(0, 1)", x.rule(0, 1), 1);
        Check.due("rule(0, 2)", x.rule(0, 2), BAD);
        Check.due("rule(0, -1)", x.rule(0, -1), BAD);
        Check.due("rule(0, 0)", x.rule(0, 0), 1);
        Check.due("rule(1, 16)", x.rule(1, 16), 0);
        Check.due("rule(1, 17)", x.rule(1, 17), BAD);
        Check.due("rule(1, -1)", x.rule(1, -1), BAD);
        Check.due("rule(1, 5)", x.rule(1, 5), 16);
        Check.due("rule(0, 0)", x.rule(0, 0), 0);
        Check.due("rule(1, 0)", x.rule(1, 0), 5);
        Check.due("rule(2, 0)", x.rule(2, 0), BAD);
        Check.due("rule(-1, 0)", x.rule(-1, 0), BAD);
    }
}
