/**
 * Promises 10 to 21, refusal by refusal: what is just refused and what is just taken, which
 * of several refusals is told, and that nothing has changed behind a refused call.
 */
public final class EdgesOfPromises10To21Test {
    private static final int BAD = ClassAnswers.BAD;
    private static final int NO = ClassAnswers.NO;
    private static final int FULL = ClassAnswers.FULL;
    private static final int NONE = ClassAnswers.NONE;
    private static final int BAD_PAGE = -9;

    public static void main(String[] args) {
        promise10NoIfHidden();
        promise10NoIfNothingIsAsked();
        promise10IsToldWithFewerThanLeast();
        promise11BadChoice();
        promise11NoIfNotShown();
        promise11NoIfAnotherKind();
        promise12BadWhat();
        promise12NoIfNotShownOrAnotherKind();
        promise12NoIfNoAnswer();
        promise13BadWhat();
        promise13NoIfNotShownOrAnotherKind();
        promise13NoIfNoAnswer();
        shownIsBadAheadOfNo();
        shownChangesNothing();
        promise14NoIfNothingIsAsked();
        promise14BadAnswer();
        promise14NoBelowTheBell();
        promise14FullWith20();
        promise14OrderOfRefusals();
        promise14NobodyIsRight();
        promise15BadPage();
        promise15BadBox();
        promise15BadIsNotMistakenForNone();
        promise16Bad();
        promise17BadBoxes();
        promise17TwoAtLeast();
        promise17TwelveAtMost();
        promise17BadWhat();
        promise18NoneIfTheBookIsEmpty();
        promise19SeedIs1To2147483646();
        promise19HowManyBoxes();
        promise19LotsAnew();
        promise20NoneIfAllAre();
        promise20NoIfNoSeedWasTold();
        promise20NoAheadOfNone();
        promise20BoxesThatComeLater();
        promise21Bad();
        promise21LettersUnderWay();
        promise21Tries();
        bookAndCountsChangeNothing();
        Check.end();
    }

    private static Run rules(Run run, int hidden, int least) {
        return run.then("rule(0, " + hidden + ")", "rule(1, " + least + ")");
    }

    /** "NO: it is not SHOWN (HIDDEN)" */
    private static void promise10NoIfHidden() {
        int[][] kinds = {{0, 0}, {1, 0}, {2, 2}, {2, 5}};
        for (int[] of : kinds) {
            Run run = rules(Scenes.asked(of[0], of[1]), 1, 0).due("count(1)", 10);
            run.refused("answers()", NO).due("ticks(1)", 11).refused("answers()", NO);
            run.due("ticks(1)", 12);
            Check.holds("shown at the bell", run.answer("answers()") >= 0);
            Run open = rules(Scenes.asked(of[0], of[1]), 0, 0);
            Check.holds("shown if not hidden", open.answer("answers()") >= 0);
        }
    }

    /** "nothing is ASKED." */
    private static void promise10NoIfNothingIsAsked() {
        for (Run run : Scenes.allNotAsked()) {
            run.refused("answers()", NO).due("ask(0, 0, 90)", 0).due("answers()", 0);
        }
        new Run().refused("answers()", NO).then("ask(0, 0, 1)").due("answers()", 0)
                .then("ticks(1)").due("answers()", 0).then("close(0)").refused("answers()", NO);
    }

    private static void promise10IsToldWithFewerThanLeast() {
        Run run = Scenes.withBoxes(1).then("ask(0, 0, 9)", "send(0, 1)", "rule(1, 16)");
        run.due("answers()", 0).then("ticks(1)").due("answers()", 1).due("share(1)", NO);
    }

    private static final int[] FAR = {Integer.MAX_VALUE, Integer.MIN_VALUE, -4, 1 << 16};

    private static void badWhats(Run run, String name, int most) {
        run.refused(name + "(-1)", BAD).refused(name + "(" + (most + 1) + ")", BAD);
        for (int what : FAR) {
            run.refused(name + "(" + what + ")", BAD);
        }
    }

    /** "SHARES of a CHOICE (0 to 7). BAD" */
    private static void promise11BadChoice() {
        for (Run run : Scenes.all()) {
            badWhats(run, "share", 7);
        }
        Run run = rules(Scenes.asked(0, 0), 0, 0);
        for (int choice = 0; choice <= 7; choice++) {
            Check.holds("share(" + choice + ")", run.answer("share(" + choice + ")") >= 0);
        }
    }

    /** "NO: not SHOWN": nothing asked, hidden, fewer than LEAST. */
    private static void promise11NoIfNotShown() {
        for (Run run : Scenes.allNotAsked()) {
            run.refused("share(0)", NO).refused("share(7)", NO);
        }
        Run run = Scenes.withBoxes(2).then("ask(0, 0, 2)", "send(0, 3)", "ticks(1)");
        run.due("share(3)", 1).due("rule(0, 1)", 0).refused("share(3)", NO);
        run.due("ticks(1)", 2).due("share(3)", 1).due("rule(1, 1)", 0).due("share(3)", 1);
        run.due("rule(1, 2)", 1).refused("share(3)", NO).refused("share(0)", NO);
        run.then("rule(1, 0)").due("close(3)", 1).refused("share(3)", NO);
    }

    /** "another KIND." */
    private static void promise11NoIfAnotherKind() {
        int[][] kinds = {{1, 0}, {2, 2}, {2, 5}};
        for (int[] of : kinds) {
            Run run = rules(Scenes.asked(of[0], of[1]), 0, 0);
            for (int choice = 0; choice <= 7; choice++) {
                run.refused("share(" + choice + ")", NO);
            }
        }
    }

    private static void promise12BadWhat() {
        for (Run run : Scenes.all()) {
            badWhats(run, "number", 2);
        }
    }

    private static void promise12NoIfNotShownOrAnotherKind() {
        Run[] runs = {Scenes.withBoxes(4), Scenes.closed(1, 0), rules(Scenes.asked(1, 0), 1, 0),
            rules(Scenes.asked(1, 0), 0, 16), rules(Scenes.asked(0, 0), 0, 0),
            rules(Scenes.asked(2, 2), 0, 0)};
        for (Run run : runs) {
            for (int what = 0; what <= 2; what++) {
                run.refused("number(" + what + ")", NO);
            }
        }
        rules(Scenes.asked(1, 0), 0, 0).then("ticks(2)").due("number(0)", 40);
    }

    /** "NO (no ANSWER, too).": none sent, lost, under way, too late. */
    private static void promise12NoIfNoAnswer() {
        noAnswer("ask(1, 0, 1)", "number", 2);
    }

    private static void noAnswer(String ask, String name, int most) {
        Run run = Scenes.withBoxes(3).then("road(0, 0, 65535, 0)", "road(0, 1, 65535, 0)",
                "road(1, 0, 0, 5)", "road(1, 1, 0, 5)", ask, "send(0, 1)", "send(1, 1)",
                "ticks(1)", "send(2, 1)", "ticks(1)");
        run.due("answers()", 0).due("count(4)", 4);
        for (int what = 0; what <= most; what++) {
            run.refused(name + "(" + what + ")", NO);
        }
        run.then("ticks(4)").due("answers()", 1).due(name + "(0)", 1).due(name + "(1)", 0);
        Run empty = new Run(ask);
        for (int what = 0; what <= most; what++) {
            empty.refused(name + "(" + what + ")", NO);
        }
    }

    private static void promise13BadWhat() {
        for (Run run : Scenes.all()) {
            badWhats(run, "order", 1);
        }
    }

    private static void promise13NoIfNotShownOrAnotherKind() {
        Run[] runs = {Scenes.withBoxes(4), Scenes.closed(2, 4), rules(Scenes.asked(2, 5), 1, 0),
            rules(Scenes.asked(2, 5), 0, 16), rules(Scenes.asked(0, 0), 0, 0),
            rules(Scenes.asked(1, 0), 0, 0)};
        for (Run run : runs) {
            run.refused("order(0)", NO).refused("order(1)", NO);
        }
        rules(Scenes.asked(2, 5), 0, 0).then("ticks(2)").due("order(0)", 668);
    }

    private static void promise13NoIfNoAnswer() {
        noAnswer("ask(2, 2, 1)", "order", 1);
    }

    /** "Of several the first": BAD stands ahead of NO. */
    private static void shownIsBadAheadOfNo() {
        Run[] runs = {new Run(), Scenes.closed(0, 0), rules(Scenes.asked(0, 0), 1, 16),
            rules(Scenes.asked(1, 0), 1, 16), rules(Scenes.asked(2, 2), 1, 16)};
        for (Run run : runs) {
            run.refused("share(8)", BAD).refused("share(7)", NO);
            run.refused("number(3)", BAD).refused("number(2)", NO);
            run.refused("order(2)", BAD).refused("order(1)", NO);
        }
    }

    private static void shownChangesNothing() {
        Run[] runs = {rules(Scenes.atTheBell(0, 0), 0, 0), rules(Scenes.atTheBell(1, 0), 0, 0),
            rules(Scenes.atTheBell(2, 3), 0, 0)};
        String[] calls = {"answers()", "share(5)", "share(6)", "number(0)", "number(1)",
            "number(2)", "order(0)", "order(1)"};
        for (Run run : runs) {
            for (String call : calls) {
                run.reads(call);
            }
        }
    }

    /** "NO: nothing is ASKED" */
    private static void promise14NoIfNothingIsAsked() {
        for (Run run : Scenes.allNotAsked()) {
            run.refused("close(0)", NO).refused("close(6)", NO).refused("close(1672)", NO);
        }
        new Run().refused("close(0)", NO);
    }

    /** "BAD: an answer that is none of its KIND" */
    private static void promise14BadAnswer() {
        int[][] kinds = {{0, 0, 0, 7}, {1, 0, 0, 100000}, {2, 3, 10, 136}};
        for (int[] of : kinds) {
            for (int bad : new int[] {-1, of[3] + 1, Integer.MAX_VALUE, Integer.MIN_VALUE}) {
                Scenes.asked(of[0], of[1]).refused("close(" + bad + ")", BAD);
                Scenes.atTheBell(of[0], of[1]).refused("close(" + bad + ")", BAD);
            }
            for (int right : new int[] {of[2], of[3]}) {
                Run run = Scenes.atTheBell(of[0], of[1]);
                Check.holds("close(" + right + ")", run.answer("close(" + right + ")") >= 0);
                run.due("count(2)", 3).due("count(3)", 0);
            }
        }
        Run order = Scenes.atTheBell(2, 3);
        order.refused("close(8)", BAD).refused("close(1672)", BAD).refused("close(0)", BAD);
    }

    /** "NO: the TICK is below THE BELL" */
    private static void promise14NoBelowTheBell() {
        for (int bell = 1; bell <= 5; bell++) {
            Run run = Scenes.withBoxes(1).then("ask(0, 0, " + bell + ")", "send(0, 1)");
            for (int tick = 0; tick < bell; tick++) {
                run.refused("close(1)", NO).due("ticks(1)", tick + 1);
            }
            run.due("close(1)", 1).due("book(0, 0)", 1);
        }
        Scenes.withBoxes(1).then("ask(0, 0, 3)", "ticks(4)").due("close(1)", 0);
    }

    /** "FULL: 20." */
    private static void promise14FullWith20() {
        Run run = Scenes.withFullBook().then("ticks(2)").refused("close(1)", FULL);
        run.refused("close(0)", FULL).due("count(2)", 20).due("count(3)", 1).due("marks(0)", 10);
        run.due("answers()", 1).refused("box()", NO).refused("ask(0, 0, 90)", NO);
        run.due("send(0, 3)", 2).then("ticks(5)").refused("close(1)", FULL);
    }

    /** "NO ..; BAD ..; NO ..; FULL": "Of several the first". */
    private static void promise14OrderOfRefusals() {
        new Run().refused("close(-1)", NO).refused("close(MAX)", NO);
        Scenes.closed(0, 0).refused("close(-1)", NO).refused("close(8)", NO);
        Scenes.asked(0, 0).refused("close(8)", BAD).refused("close(7)", NO);
        Run full = Scenes.withFullBook().refused("close(8)", BAD).refused("close(7)", NO);
        full.then("ticks(1)").refused("close(8)", BAD).refused("close(7)", NO);
        full.then("ticks(1)").refused("close(8)", BAD).refused("close(7)", FULL);
    }

    /** "how many were": of no box, of none with an answer, of all. */
    private static void promise14NobodyIsRight() {
        new Run("ask(0, 0, 1)", "ticks(1)").due("close(0)", 0).due("count(2)", 1).due("best()", 0);
        Run run = Scenes.withBoxes(16).then("ask(0, 0, 1)", "ticks(1)").due("close(0)", 0);
        run.then("ask(0, 0, 2)");
        for (int box = 0; box < 16; box++) {
            run.then("send(" + box + ", 0)");
        }
        run.then("ticks(1)").due("close(0)", 16);
        for (int box = 0; box < 16; box++) {
            run.due("marks(" + box + ")", 1).due("book(0, " + box + ")", -1);
            run.due("book(1, " + box + ")", 1);
        }
    }

    private static String book(int page, int box) {
        return "book(" + page + ", " + box + ")";
    }

    /** "BAD answers -9.": a page that there is not. */
    private static void promise15BadPage() {
        for (Run run : Scenes.allWithBoxes()) {
            int pages = run.answer("count(2)");
            for (int page : new int[] {-1, pages, 20, 21, Integer.MAX_VALUE, Integer.MIN_VALUE}) {
                run.refused(book(page, 0), BAD_PAGE);
            }
            if (pages > 0) {
                Check.holds("the first page", run.answer(book(0, 0)) != BAD_PAGE);
                Check.holds("the last page", run.answer(book(pages - 1, 3)) != BAD_PAGE);
            }
        }
        Scenes.withFullBook().refused(book(20, 0), BAD_PAGE).due(book(19, 0), 1).due(book(0, 0), 0);
    }

    private static void promise15BadBox() {
        for (int box : new int[] {-1, 4, 15, 16, Integer.MAX_VALUE, Integer.MIN_VALUE}) {
            Scenes.withBook().refused(book(0, box), BAD_PAGE).refused(book(1, box), BAD_PAGE);
        }
        Scenes.withBook().due(book(0, 2), 1).due(book(0, 3), 0).due(book(0, 0), 0)
                .due(book(0, 1), -1).due(book(1, 3), 1).due(book(1, 1), -1);
        Run run = Scenes.withBook();
        for (int box = 4; box < 16; box++) {
            run.refused(book(0, box), BAD_PAGE).due("box()", box).due(book(0, box), -1);
        }
        run.refused(book(0, 16), BAD_PAGE);
    }

    /** -1 says that there was no answer, so it can't say BAD. */
    private static void promise15BadIsNotMistakenForNone() {
        new Run().refused(book(0, 0), BAD_PAGE);
        Scenes.withBoxes(1).refused(book(0, 0), BAD_PAGE).then("ask(0, 0, 1)", "ticks(1)")
                .refused(book(0, 0), BAD_PAGE).then("close(0)").due(book(0, 0), -1)
                .refused(book(1, 0), BAD_PAGE).refused(book(0, 1), BAD_PAGE)
                .refused(book(-1, -1), BAD_PAGE);
    }

    private static void promise16Bad() {
        for (Run run : Scenes.allWithBoxes()) {
            for (int box : new int[] {-1, 4, 15, 16, Integer.MAX_VALUE, Integer.MIN_VALUE}) {
                run.refused("marks(" + box + ")", BAD);
            }
            Check.holds("marks(0)", run.answer("marks(0)") >= 0);
            Check.holds("marks(3)", run.answer("marks(3)") >= 0);
        }
        Scenes.withBook().due("marks(0)", 0).due("marks(1)", 0).due("marks(2)", 2)
                .due("marks(3)", 1);
    }

    /** "TEAMS of BOXES (as bits": of boxes that there are. */
    private static void promise17BadBoxes() {
        for (Run run : Scenes.allWithBoxes()) {
            int[] bad = {0b10001, 0b110000, 0b11111, -1, 1 << 16 | 3, 1 << 30 | 3,
                Integer.MIN_VALUE, Integer.MIN_VALUE | 3, Integer.MAX_VALUE};
            for (int boxes : bad) {
                run.refused("teams(" + boxes + ", 0)", BAD).refused("teams(" + boxes + ", 1)", BAD);
            }
            Check.holds("teams(15, 0)", (run.answer("teams(15, 0)") & 1) == 1);
        }
        Run run = Scenes.withBoxes(3).refused("teams(9, 0)", BAD).then("box()");
        run.due("teams(9, 0)", 1);
        Run all = Scenes.withBoxes(16).due("teams(49152, 0)", 16384).due("teams(32769, 0)", 1);
        all.refused("teams(65537, 0)", BAD).refused("teams(98304, 0)", BAD);
    }

    /** "2 at least" */
    private static void promise17TwoAtLeast() {
        for (Run run : Scenes.allWithBoxes()) {
            run.refused("teams(0, 0)", BAD).refused("teams(0, 1)", BAD);
            for (int box = 0; box < 4; box++) {
                run.refused("teams(" + (1 << box) + ", 0)", BAD);
                run.refused("teams(" + (1 << box) + ", 1)", BAD);
            }
        }
        Run run = Scenes.withBoxes(4);
        for (int boxes : new int[] {3, 5, 6, 9, 10, 12}) {
            run.due("teams(" + boxes + ", 0)", Integer.lowestOneBit(boxes));
        }
    }

    /** "12 at most" */
    private static void promise17TwelveAtMost() {
        Run run = Scenes.withBoxes(16);
        for (int shift = 0; shift <= 3; shift++) {
            int thirteen = 0x1FFF << shift;
            run.refused("teams(" + thirteen + ", 0)", BAD).refused("teams(" + thirteen + ", 1)", BAD);
            run.due("teams(" + (0xFFF << shift) + ", 0)", 0x3F << shift);
        }
        run.refused("teams(65535, 0)", BAD).refused("teams(65534, 1)", BAD);
        Scenes.wholeClass().refused("teams(8191, 0)", BAD).refused("teams(65535, 1)", BAD);
    }

    private static void promise17BadWhat() {
        for (Run run : Scenes.allWithBoxes()) {
            for (int what : new int[] {-1, 2, 3, Integer.MAX_VALUE, Integer.MIN_VALUE}) {
                run.refused("teams(3, " + what + ")", BAD).refused("teams(0, " + what + ")", BAD);
            }
        }
    }

    /** "NONE: THE BOOK is empty." */
    private static void promise18NoneIfTheBookIsEmpty() {
        new Run().refused("best()", NONE);
        Run run = Scenes.withBoxes(2).refused("best()", NONE).then("ask(0, 0, 1)", "ticks(1)");
        run.refused("best()", NONE).then("close(0)").due("best()", 0);
        Scenes.withFullBook().due("best()", 19);
    }

    /** "by a SEED (1 to 2147483646) .. BAD." */
    private static void promise19SeedIs1To2147483646() {
        for (Run run : Scenes.all()) {
            for (int seed : new int[] {0, -1, Integer.MAX_VALUE, Integer.MIN_VALUE}) {
                run.refused("seed(" + seed + ")", BAD);
            }
            int boxes = run.answer("count(0)");
            run.due("seed(1)", boxes).refused("seed(0)", BAD).due("seed(2147483646)", boxes);
            run.refused("seed(2147483647)", BAD);
        }
    }

    private static void promise19HowManyBoxes() {
        Run run = new Run();
        for (int boxes = 0; boxes < 16; boxes++) {
            run.due("seed(9)", boxes).then("box()");
        }
        run.due("seed(9)", 16).then("draw()", "draw()").due("seed(9)", 16);
    }

    /** "LOTS anew": of all boxes, from the seed on. */
    private static void promise19LotsAnew() {
        // 48271 is odd: of two boxes 1 comes first.
        Run run = Scenes.withBoxes(2).then("seed(1)").due("draw()", 1);
        run.due("seed(1)", 2).due("draw()", 1).due("draw()", 0).refused("draw()", NONE);
        run.refused("seed(0)", BAD).refused("draw()", NONE);
        run.due("seed(1)", 2).due("draw()", 1).due("seed(2)", 2).due("draw()", 0);
    }

    /** "NONE: all are" */
    private static void promise20NoneIfAllAre() {
        for (int boxes = 0; boxes <= 3; boxes++) {
            Run run = Scenes.withBoxes(boxes).due("seed(1)", boxes);
            for (int i = 0; i < boxes; i++) {
                Check.holds("draw()", run.answer("draw()") >= 0);
            }
            run.refused("draw()", NONE).refused("draw()", NONE);
        }
    }

    /** "NO: no seed() was told." */
    private static void promise20NoIfNoSeedWasTold() {
        for (int boxes : new int[] {0, 1, 16}) {
            Run run = Scenes.withBoxes(boxes).refused("draw()", NO);
            run.refused("seed(0)", BAD).refused("draw()", NO).refused("seed(MAX)", BAD);
            run.refused("draw()", NO).then("seed(1)");
            Check.holds("told", run.answer("draw()") != NO);
        }
    }

    /** Without a box and without a seed it is NO, as the shared runs have it. */
    private static void promise20NoAheadOfNone() {
        new Run().refused("draw()", NO).due("seed(3)", 0).refused("draw()", NONE);
    }

    private static void promise20BoxesThatComeLater() {
        Run run = Scenes.withBoxes(1).then("seed(1)").due("draw()", 0).refused("draw()", NONE);
        run.due("box()", 1).due("draw()", 1).refused("draw()", NONE);
    }

    private static void promise21Bad() {
        for (Run run : Scenes.all()) {
            badWhats(run, "count", 5);
            for (int what = 0; what <= 5; what++) {
                Check.holds("count(" + what + ")", run.answer("count(" + what + ")") >= 0);
            }
        }
    }

    /** "4 letters under way": neither those that are lost nor those that have come. */
    private static void promise21LettersUnderWay() {
        Run run = Scenes.withBoxes(2).then("road(0, 0, 0b10, 2)", "road(0, 1, 65535, 0)");
        run.then("ask(0, 0, 9)").due("count(4)", 0).then("send(0, 1)", "send(1, 1)");
        run.due("count(4)", 0).then("ticks(1)").due("count(4)", 1).then("ticks(1)");
        run.due("count(4)", 1).then("ticks(1)").due("count(4)", 1).then("ticks(1)");
        run.due("count(4)", 1).then("ticks(1)").due("count(4)", 0);
        Run most = Scenes.withBoxes(16);
        for (int box = 0; box < 16; box++) {
            most.then("road(" + box + ", 0, 0, 9)", "road(" + box + ", 1, 0, 9)");
        }
        most.then("ask(0, 0, 99)");
        for (int round = 1; round <= 2; round++) {
            for (int box = 0; box < 16; box++) {
                most.due("send(" + box + ", 1)", round);
            }
            most.then("ticks(4)").due("count(4)", 128 * round);
        }
        for (int box = 0; box < 16; box++) {
            most.due("send(" + box + ", 2)", 3);
        }
        // In each tick 32 letters are put; from tick 9 on as many come.
        most.then("ticks(1)").due("count(4)", 288).then("ticks(1)").due("count(4)", 288);
        most.then("ticks(30)").due("count(4)", 0).due("about(15, 3)", 2).due("about(0, 3)", 2);
    }

    /** "5 tries of all in all": of all boxes, roads and questions; closing keeps them. */
    private static void promise21Tries() {
        Run run = Scenes.withBoxes(2).then("road(0, 0, 65535, 0)", "road(0, 1, 65535, 0)");
        run.then("ask(0, 0, 1)", "send(0, 1)", "send(1, 1)").due("count(5)", 0);
        run.then("ticks(1)").due("count(5)", 4).then("ticks(1)").due("count(5)", 6);
        run.then("ticks(200)").due("count(5)", 12).due("close(1)", 1).due("count(5)", 12);
        run.then("ticks(200)").due("count(5)", 12).then("ask(0, 0, 999)").due("count(5)", 12);
        run.then("send(1, 1)", "ticks(2)").due("count(5)", 14);
    }

    private static void bookAndCountsChangeNothing() {
        for (Run run : Scenes.allWithBoxes()) {
            run.reads(book(0, 0)).reads(book(1, 3)).reads("marks(2)").reads("best()");
            run.reads("teams(15, 0)").reads("teams(15, 1)").reads("teams(7, 0)");
            for (int what = 0; what <= 5; what++) {
                run.reads("count(" + what + ")");
            }
        }
    }
}
