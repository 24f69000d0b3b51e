/**
 * Promises 1 to 9, refusal by refusal: what is just refused and what is just taken, which
 * of several refusals is told, and that nothing has changed behind a refused call.
 */
public final class EdgesOfPromises1To9Test {
    private static final int BAD = ClassAnswers.BAD;
    private static final int NO = ClassAnswers.NO;
    private static final int FULL = ClassAnswers.FULL;
    private static final int NONE = ClassAnswers.NONE;

    public static void main(String[] args) {
        promise1NoBoxesTick0NothingAsked();
        promise1ObjectsAreApart();
        promise2NoWhileAsked();
        promise2FullWith16();
        promise2NoAheadOfFull();
        promise3BadBox();
        promise3BadBase();
        promise3BitsAre0To65535();
        promise3DelayIs0To9();
        promise3BeginsAtBit0();
        promise4Hidden();
        promise4Least();
        promise4NoOtherRule();
        promise5BadKind();
        promise5KIsNotLookedAtElse();
        promise5KIs2To5ForOrders();
        promise5BellAboveTheTick();
        promise5BellTo100000();
        promise5NoIfOneIs();
        promise5BadAheadOfNo();
        promise6BadBox();
        promise6NoIfNothingIsAsked();
        promise6BadAnswer();
        promise6OrderOfRefusals();
        promise7TicksAre1To200();
        promise7FullBeyond100000();
        promise7BadAheadOfFull();
        promise7AllHappensInTheLastTick();
        promise8Bad();
        promise8None();
        promise8BadAheadOfNone();
        promise9Bad();
        promise9NoneSentIs0();
        promise9ReadingChangesNothing();
        Check.end();
    }

    /** "No BOXES; TICK 0; nothing ASKED." */
    private static void promise1NoBoxesTick0NothingAsked() {
        Run run = new Run();
        for (int what = 0; what <= 5; what++) {
            run.refused("count(" + what + ")", 0);
        }
        for (int box : new int[] {-1, 0, 1, 15}) {
            run.refused("about(" + box + ", 0)", BAD).refused("marks(" + box + ")", BAD);
            run.refused("base(0, " + box + ", 0)", BAD).refused("send(" + box + ", 0)", BAD);
            run.refused("road(" + box + ", 0, 0, 0)", BAD).refused("book(0, " + box + ")", -9);
        }
        run.refused("answers()", NO).refused("share(0)", NO).refused("number(0)", NO);
        run.refused("order(0)", NO).refused("close(0)", NO).refused("best()", NONE);
        run.refused("teams(3, 0)", BAD).refused("draw()", NO);
        run.due("rule(0, 0)", 0).due("rule(1, 0)", 0).due("ask(0, 0, 1)", 0);
    }

    private static void promise1ObjectsAreApart() {
        Run one = Scenes.asked(0, 0);
        Run other = new Run().refused("count(0)", 0).refused("count(3)", 0);
        one.due("count(0)", 4).due("count(3)", 1);
        other.due("box()", 0).due("draw()", NO).due("about(0, 0)", 0);
    }

    /** "NO: a QUESTION is ASKED" */
    private static void promise2NoWhileAsked() {
        for (Run run : Scenes.allAsked()) {
            run.refused("box()", NO);
        }
        for (Run run : Scenes.allNotAsked()) {
            run.due("box()", 4).due("count(0)", 5).due("about(4, 3)", NONE);
            run.due("about(4, 0)", 0).due("marks(4)", 0);
        }
        Run none = new Run("ask(0, 0, 1)").refused("box()", NO).then("ticks(1)");
        none.refused("box()", NO).due("close(0)", 0).due("box()", 0);
    }

    /** "FULL: 16." */
    private static void promise2FullWith16() {
        Run run = Scenes.withBoxes(15).due("count(0)", 15).due("box()", 15);
        run.refused("box()", FULL).refused("box()", FULL).due("count(0)", 16);
        run.then("ask(0, 0, 1)", "ticks(1)", "close(0)").refused("box()", FULL);
        Scenes.wholeClass().refused("box()", FULL).then("ask(0, 0, 20)").refused("box()", NO);
    }

    private static void promise2NoAheadOfFull() {
        Scenes.withBoxes(16).then("ask(0, 0, 1)").refused("box()", NO).then("ticks(1)", "close(0)")
                .refused("box()", FULL);
    }

    private static final int[] NO_BOX = {-1, 4, 5, 15, 16, 1 << 16, Integer.MAX_VALUE,
        Integer.MIN_VALUE};

    /** "BAD.": "there is no such thing" */
    private static void promise3BadBox() {
        for (Run run : Scenes.allWithBoxes()) {
            for (int box : NO_BOX) {
                run.refused("road(" + box + ", 0, 255, 3)", BAD);
            }
            run.due("road(0, 0, 255, 3)", 0).due("road(3, 1, 255, 3)", 0);
        }
        new Run().refused("road(0, 0, 0, 0)", BAD).then("box()").due("road(0, 0, 0, 0)", 0)
                .refused("road(1, 0, 0, 0)", BAD);
    }

    private static void promise3BadBase() {
        for (Run run : Scenes.allWithBoxes()) {
            for (int base : new int[] {-1, 2, 3, Integer.MAX_VALUE, Integer.MIN_VALUE}) {
                run.refused("road(0, " + base + ", 255, 3)", BAD);
            }
            run.due("road(0, 0, 255, 3)", 0).due("road(0, 1, 255, 3)", 0);
        }
    }

    /** "its row of bits (0 to 65535)" */
    private static void promise3BitsAre0To65535() {
        for (Run run : Scenes.allWithBoxes()) {
            for (int bits : new int[] {-1, 65536, 65537, Integer.MAX_VALUE, Integer.MIN_VALUE}) {
                run.refused("road(3, 0, " + bits + ", 0)", BAD);
                run.refused("road(0, 1, " + bits + ", 0)", BAD);
            }
        }
        for (int bits : new int[] {0, 65535}) {
            Run run = Scenes.withBoxes(1).then("road(0, 1, 65535, 0)");
            run.due("road(0, 0, " + bits + ", 0)", 0).then("ask(0, 0, 99)");
            for (int i = 1; i <= 20; i++) {
                run.then("send(0, 1)", "ticks(1)").due("about(0, 2)", bits == 0 ? 1 : 0);
            }
        }
    }

    /** "its DELAY": 0 to 9. */
    private static void promise3DelayIs0To9() {
        for (Run run : Scenes.allWithBoxes()) {
            for (int delay : new int[] {-1, 10, 11, Integer.MAX_VALUE, Integer.MIN_VALUE}) {
                run.refused("road(3, 1, 65535, " + delay + ")", BAD);
                run.refused("road(0, 0, 0, " + delay + ")", BAD);
            }
            run.due("road(3, 1, 0, 9)", 0).due("road(3, 1, 0, 0)", 0);
        }
    }

    /** "it begins at bit 0": wherever its place was. */
    private static void promise3BeginsAtBit0() {
        for (int tries = 0; tries <= 17; tries++) {
            Run run = Scenes.withBoxes(1).then("road(0, 1, 65535, 0)", "ask(0, 0, 99)");
            for (int i = 0; i < tries; i++) {
                run.then("send(0, 1)", "ticks(1)");
            }
            run.refused("road(0, 0, 65536, 0)", BAD).due("road(0, 0, 0b1110, 0)", 0);
            run.then("send(0, 2)", "ticks(1)").due("base(0, 0, 3)", tries + 1);
            run.then("send(0, 2)", "ticks(1)").due("base(0, 0, 3)", tries + 1);
        }
    }

    /** "HIDDEN (what = 0: 0, 1) .. what it was" */
    private static void promise4Hidden() {
        for (Run run : Scenes.all()) {
            for (int v : new int[] {-1, 2, 16, Integer.MAX_VALUE, Integer.MIN_VALUE}) {
                run.refused("rule(0, " + v + ")", BAD);
            }
            run.due("rule(0, 1)", 0).due("rule(0, 1)", 1).refused("rule(0, 2)", BAD);
            run.refused("rule(0, -1)", BAD).due("rule(0, 0)", 1).due("rule(0, 0)", 0);
        }
    }

    /** "LEAST (1): what it was." */
    private static void promise4Least() {
        for (Run run : Scenes.all()) {
            for (int v : new int[] {-1, 17, 18, Integer.MAX_VALUE, Integer.MIN_VALUE}) {
                run.refused("rule(1, " + v + ")", BAD);
            }
            run.then("rule(1, 0)");
            for (int v = 1; v <= 16; v++) {
                run.due("rule(1, " + v + ")", v - 1);
            }
            run.refused("rule(1, 17)", BAD).due("rule(1, 0)", 16).due("rule(0, 0)", 0);
        }
    }

    private static void promise4NoOtherRule() {
        for (Run run : Scenes.all()) {
            for (int what : new int[] {-1, 2, 3, Integer.MAX_VALUE, Integer.MIN_VALUE}) {
                run.refused("rule(" + what + ", 0)", BAD).refused("rule(" + what + ", 1)", BAD);
            }
        }
    }

    private static String ask(int kind, int k, int bell) {
        return "ask(" + kind + ", " + k + ", " + bell + ")";
    }

    private static void promise5BadKind() {
        for (Run run : Scenes.all()) {
            for (int kind : new int[] {-1, 3, 4, Integer.MAX_VALUE, Integer.MIN_VALUE}) {
                run.refused(ask(kind, 3, 50), BAD);
            }
        }
        for (int kind = 0; kind <= 2; kind++) {
            new Run().due(ask(kind, 3, 50), 0);
        }
    }

    /** "k (2 to 5 for ORDERS; else not looked at)" */
    private static void promise5KIsNotLookedAtElse() {
        for (int k : new int[] {-1, 0, 1, 2, 5, 6, Integer.MAX_VALUE, Integer.MIN_VALUE}) {
            Run choice = Scenes.withBoxes(1).due(ask(0, k, 1), 0);
            choice.due("send(0, 7)", 1).refused("send(0, 8)", BAD).then("ticks(1)");
            choice.due("share(7)", 1).due("order(0)", NO).due("close(7)", 1);
            Run number = Scenes.withBoxes(1).due(ask(1, k, 1), 0);
            number.due("send(0, 100000)", 1).refused("send(0, 100001)", BAD).then("ticks(1)");
            number.due("number(0)", 100000).due("order(0)", NO).due("close(100000)", 1);
        }
    }

    private static void promise5KIs2To5ForOrders() {
        for (Run run : Scenes.all()) {
            for (int k : new int[] {-1, 0, 1, 6, 7, Integer.MAX_VALUE, Integer.MIN_VALUE}) {
                run.refused(ask(2, k, 50), BAD);
            }
        }
        for (Run run : Scenes.allNotAsked()) {
            for (int k = 2; k <= 5; k++) {
                run.again().due(ask(2, k, 50), 0).due("count(3)", 1);
            }
        }
    }

    /** "BELL (above the TICK" */
    private static void promise5BellAboveTheTick() {
        for (Run run : Scenes.all()) {
            int tick = run.answer("count(1)");
            for (int bell : new int[] {tick, tick - 1, 0, -1, Integer.MIN_VALUE}) {
                run.refused(ask(0, 0, bell), BAD);
            }
        }
        for (Run run : Scenes.allNotAsked()) {
            int tick = run.answer("count(1)");
            run.due(ask(0, 0, tick + 1), 0).refused("close(0)", NO).then("ticks(1)");
            run.due("close(0)", 0);
        }
    }

    /** "to 100000)" */
    private static void promise5BellTo100000() {
        for (Run run : Scenes.all()) {
            run.refused(ask(0, 0, 100001), BAD).refused(ask(1, 0, Integer.MAX_VALUE), BAD);
        }
        for (Run run : Scenes.allNotAsked()) {
            run.due(ask(1, 0, 100000), 0).due("count(3)", 1);
        }
        Scenes.nearTheLastTick(1).refused(ask(0, 0, 99999), BAD).refused(ask(0, 0, 100001), BAD)
                .due(ask(0, 0, 100000), 0).due("close(0)", NO).due("ticks(1)", 100000)
                .due("close(0)", 0).refused(ask(0, 0, 100000), BAD).due("count(3)", 0);
        Scenes.nearTheLastTick(0).refused(ask(0, 0, 100000), BAD).refused(ask(0, 0, 100001), BAD);
    }

    /** "NO: one is." */
    private static void promise5NoIfOneIs() {
        for (Run run : Scenes.allAsked()) {
            for (int kind = 0; kind <= 2; kind++) {
                run.refused(ask(kind, 4, 60), NO).refused(ask(kind, 2, 100000), NO);
            }
        }
        for (Run run : Scenes.allNotAsked()) {
            run.due(ask(0, 0, 60), 0).refused(ask(0, 0, 60), NO);
        }
    }

    /** "Of several the first": "BAD; NO" */
    private static void promise5BadAheadOfNo() {
        for (Run run : Scenes.allAsked()) {
            run.refused(ask(3, 2, 60), BAD).refused(ask(2, 6, 60), BAD).refused(ask(2, 1, 60), BAD);
            run.refused(ask(0, 0, 1), BAD).refused(ask(0, 0, 100001), BAD);
        }
    }

    /** "BAD: the BOX" */
    private static void promise6BadBox() {
        for (Run run : Scenes.allWithBoxes()) {
            for (int box : NO_BOX) {
                run.refused("send(" + box + ", 1)", BAD);
            }
        }
        Run run = Scenes.withBoxes(16).then("ask(0, 0, 9)").due("send(15, 1)", 1);
        run.refused("send(16, 1)", BAD).due("send(0, 1)", 1).refused("send(-1, 1)", BAD);
    }

    /** "NO: nothing is ASKED" */
    private static void promise6NoIfNothingIsAsked() {
        for (Run run : Scenes.allNotAsked()) {
            run.refused("send(0, 1)", NO).refused("send(3, 0)", NO).then(ask(0, 0, 90));
            run.due("send(0, 1)", 1).due("send(3, 0)", 1);
        }
        Run run = Scenes.atTheBell(0, 0);
        int count = run.answer("about(0, 0)");
        run.due("send(0, 1)", count + 1).then("close(1)").refused("send(0, 1)", NO);
    }

    /** "BAD: the answer." */
    private static void promise6BadAnswer() {
        int[][] kinds = {{0, 0, 0, 7}, {1, 0, 0, 100000}, {2, 2, 1, 8}, {2, 5, 668, 18056}};
        for (int[] of : kinds) {
            Run run = Scenes.asked(of[0], of[1]);
            int count = run.answer("about(1, 0)");
            for (int bad : new int[] {-1, -7, of[3] + 1, Integer.MAX_VALUE, Integer.MIN_VALUE}) {
                run.refused("send(1, " + bad + ")", BAD);
            }
            run.due("about(1, 0)", count).due("send(1, " + of[2] + ")", count + 1);
            run.due("send(1, " + of[3] + ")", count + 2);
        }
        // Behind the bell a refused answer leaves the one that was sent ahead of it in time.
        Run late = Scenes.withBoxes(1).then("road(0, 0, 0b11, 0)", "road(0, 1, 65535, 0)",
                ask(0, 0, 1), "send(0, 5)", "ticks(2)").refused("send(0, 8)", BAD);
        late.due("ticks(1)", 3).due("about(0, 3)", 5).due("about(0, 1)", 6).due("about(0, 0)", 1);
    }

    /** "BAD: the BOX; NO: nothing is ASKED; BAD: the answer.": the first of them. */
    private static void promise6OrderOfRefusals() {
        for (Run run : Scenes.allNotAsked()) {
            run.refused("send(4, -1)", BAD).refused("send(-1, 1)", BAD).refused("send(0, -1)", NO);
            run.refused("send(3, MAX)", NO);
        }
        new Run().refused("send(0, 0)", BAD).refused("send(0, -1)", BAD);
        new Run("ask(0, 0, 1)").refused("send(0, 0)", BAD);
    }

    /** "n TICKS (1 to 200)" */
    private static void promise7TicksAre1To200() {
        for (Run run : Scenes.all()) {
            for (int n : new int[] {0, -1, 201, 202, 100000, Integer.MAX_VALUE, Integer.MIN_VALUE}) {
                run.refused("ticks(" + n + ")", BAD);
            }
            int tick = run.answer("count(1)");
            run.due("ticks(1)", tick + 1).due("ticks(200)", tick + 201).due("ticks(199)", tick + 400);
        }
    }

    /** "FULL: beyond 100000." */
    private static void promise7FullBeyond100000() {
        for (int left = 0; left <= 3; left++) {
            Run run = Scenes.nearTheLastTick(left).refused("ticks(" + (left + 1) + ")", FULL);
            run.refused("ticks(200)", FULL);
            if (left > 0) {
                run.due("ticks(" + left + ")", 100000);
            }
            run.refused("ticks(1)", FULL).due("count(1)", 100000);
        }
        Run far = new Run();
        for (int i = 1; i <= 500; i++) {
            far.due("ticks(200)", 200 * i);
        }
        far.refused("ticks(1)", FULL).refused("ticks(200)", FULL).due("count(1)", 100000);
        Run one = new Run("ticks(1)");
        for (int i = 1; i < 500; i++) {
            one.due("ticks(200)", 200 * i + 1);
        }
        one.refused("ticks(200)", FULL).due("ticks(199)", 100000).due("ticks(1)", FULL);
    }

    private static void promise7BadAheadOfFull() {
        Scenes.nearTheLastTick(0).refused("ticks(201)", BAD).refused("ticks(0)", BAD)
                .refused("ticks(MAX)", BAD).refused("ticks(MIN)", BAD).refused("ticks(-1)", BAD);
    }

    /** Letters are tried and come in the last tick but one as in any other. */
    private static void promise7AllHappensInTheLastTick() {
        Run run = Scenes.nearTheLastTick(2).then("box()", "road(0, 1, 0, 1)", ask(1, 0, 100000));
        run.due("send(0, 5)", 1).due("ticks(3)", FULL).due("count(5)", 0).due("ticks(1)", 99999);
        run.due("base(0, 0, 0)", 5).due("base(1, 0, 0)", NONE).due("ticks(1)", 100000);
        run.due("base(1, 0, 0)", 5).due("close(5)", 1);
    }

    private static String base(int base, int box, int what) {
        return "base(" + base + ", " + box + ", " + what + ")";
    }

    private static void promise8Bad() {
        for (Run run : Scenes.allWithBoxes()) {
            for (int base : new int[] {-1, 2, Integer.MAX_VALUE, Integer.MIN_VALUE}) {
                run.refused(base(base, 3, 3), BAD);
            }
            for (int box : NO_BOX) {
                run.refused(base(1, box, 3), BAD);
            }
            for (int what : new int[] {-1, 4, Integer.MAX_VALUE, Integer.MIN_VALUE}) {
                run.refused(base(1, 3, what), BAD);
            }
        }
    }

    /** "NONE": nothing has come, nothing in time, nothing too late. */
    private static void promise8None() {
        Run run = Scenes.withBoxes(2).then("road(0, 1, 65535, 0)");
        for (int what = 0; what <= 3; what++) {
            run.refused(base(0, 0, what), NONE).refused(base(1, 1, what), NONE);
        }
        run.then(ask(0, 0, 1), "send(0, 0)");
        for (int what = 0; what <= 3; what++) {
            run.refused(base(0, 0, what), NONE);
        }
        run.then("ticks(1)").due(base(0, 0, 0), 0).due(base(0, 0, 1), 1).due(base(0, 0, 2), NONE);
        run.due(base(0, 0, 3), 1).then("send(0, 1)", "send(1, 1)", "ticks(1)");
        run.due(base(0, 0, 0), 0).due(base(0, 0, 1), 1).due(base(0, 0, 2), 2).due(base(0, 0, 3), 2);
        run.due(base(0, 1, 0), NONE).due(base(0, 1, 1), NONE).due(base(0, 1, 2), 1);
        run.due(base(0, 1, 3), 1);
        for (int what = 0; what <= 3; what++) {
            run.refused(base(1, 0, what), NONE);
        }
    }

    private static void promise8BadAheadOfNone() {
        Scenes.withBoxes(1).refused(base(0, 0, 4), BAD).refused(base(2, 0, 0), BAD)
                .refused(base(0, 1, 0), BAD).refused(base(0, 0, 3), NONE);
    }

    private static void promise9Bad() {
        for (Run run : Scenes.allWithBoxes()) {
            for (int what = 0; what <= 3; what++) {
                for (int box : NO_BOX) {
                    run.refused("about(" + box + ", " + what + ")", BAD);
                }
            }
            for (int what : new int[] {-1, 4, 5, Integer.MAX_VALUE, Integer.MIN_VALUE}) {
                run.refused("about(0, " + what + ")", BAD).refused("about(3, " + what + ")", BAD);
            }
        }
    }

    /** "0 its COUNT (0: it sent none)", "else 0", "its ANSWER (NONE)" */
    private static void promise9NoneSentIs0() {
        Run run = Scenes.withBoxes(1);
        for (int asked = 0; asked < 2; asked++) {
            run.refused("about(0, 0)", 0).refused("about(0, 1)", 0).refused("about(0, 2)", 0);
            run.refused("about(0, 3)", NONE).then(ask(0, 0, 9));
        }
        run.due("send(0, 0)", 1).due("about(0, 0)", 1).due("about(0, 1)", 0).due("about(0, 2)", 0);
        run.due("about(0, 3)", NONE).then("ticks(1)").due("about(0, 1)", 2).due("about(0, 2)", 1);
        run.due("about(0, 3)", 0).due("about(0, 0)", 1);
    }

    private static void promise9ReadingChangesNothing() {
        for (Run run : Scenes.allWithBoxes()) {
            for (int what = 0; what <= 3; what++) {
                run.reads("about(0, " + what + ")").reads("about(3, " + what + ")");
                run.reads(base(0, 3, what)).reads(base(1, 0, what));
            }
        }
    }
}
