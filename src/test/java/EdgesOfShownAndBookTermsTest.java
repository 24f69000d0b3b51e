import java.util.Arrays;

/**
 * The sentences of 'Terms' about kinds of answers, what is shown, the book, teams, the best
 * question and lots that name a boundary: a test for each, named by its words.
 */
public final class EdgesOfShownAndBookTermsTest {
    private static final int BAD = ClassAnswers.BAD;
    private static final int NO = ClassAnswers.NO;
    private static final int FULL = ClassAnswers.FULL;
    private static final int NONE = ClassAnswers.NONE;

    public static void main(String[] args) {
        choicesAreAnswers0To7();
        numbersAre0To100000();
        ordersAreOf2To5Things();
        ordersHaveAllFiguresOnce();
        ordersHaveTheFirstOneLowest();
        shownIsNothingAheadOfTheBellIfHidden();
        fewerThanLeastBoxes();
        least0To16();
        least0AtFirst();
        leastCountsAnswersNotBoxes();
        sharesAreHowManyBoxesHaveEach();
        middleOfAnEvenNumberIsTheLesser();
        middleIsOfThoseWithAnAnswer();
        oddIsMoreThanThreeTimes();
        middleOffOfAnEvenNumberIsTheLesser();
        oddAtTheGreatestOffs();
        fewestTurnedPairs();
        ofSeveralTheLowerFromTheFirstOn();
        oneOrNoneOfTheOrders();
        rightIs1Or0OthersAreLess();
        twentyQuestionsAtMost();
        marksAreHowOftenItWasRight();
        lettersUnderWayAreGoneThen();
        whatBasesHaveStaysTillTheNextQuestion();
        teamsOf12BoxesAtMost();
        sizesDifferBy1AtMost();
        ofSeveralTeamsTheLeastWithTheLowestBox();
        lesserOfRightAndNotRightIsGreatest();
        ofSeveralQuestionsTheLatest();
        seedTimes48271Modulo2147483647();
        ofBoxesNotYetDrawn();
        Check.end();
    }

    /** Boxes that have each sent an answer (-1: none) that has come; the bell is 100. */
    private static Run answered(int kind, int k, int... answers) {
        Run run = Scenes.withBoxes(answers.length).due("ask(" + kind + ", " + k + ", 100)", 0);
        for (int box = 0; box < answers.length; box++) {
            if (answers[box] >= 0) {
                run.due("send(" + box + ", " + answers[box] + ")", 1);
            }
        }
        return run.due("ticks(1)", 1);
    }

    private static int[] filled(int size, int value) {
        int[] row = new int[size];
        Arrays.fill(row, value);
        return row;
    }

    /** A choice asked, answered by each box (-1: not) and closed in one tick. */
    private static Run page(Run run, int right, int... answers) {
        int bell = run.answer("count(1)") + 1;
        run.due("ask(0, 0, " + bell + ")", 0);
        for (int box = 0; box < answers.length; box++) {
            if (answers[box] >= 0) {
                run.due("send(" + box + ", " + answers[box] + ")", 1);
            }
        }
        run.due("ticks(1)", bell);
        int rightOnes = (int) Arrays.stream(answers).filter(v -> v == right).count();
        return run.due("close(" + right + ")", rightOnes);
    }

    /** "0 CHOICE (answers 0 to 7)" */
    private static void choicesAreAnswers0To7() {
        Run run = Scenes.withBoxes(1).then("ask(0, 0, 1)");
        run.refused("send(0, -1)", BAD).refused("send(0, 8)", BAD);
        run.due("send(0, 0)", 1).due("send(0, 7)", 2).then("ticks(1)").due("share(7)", 1);
        run.refused("share(-1)", BAD).refused("share(8)", BAD).due("share(0)", 0);
        run.refused("close(-1)", BAD).refused("close(8)", BAD).due("close(7)", 1);
        page(run, 0, 0).due("marks(0)", 2);
    }

    /** "1 NUMBER (0 to 100000)" */
    private static void numbersAre0To100000() {
        for (int number : new int[] {0, 100000}) {
            Run run = Scenes.withBoxes(1).then("ask(1, 0, 1)");
            run.refused("send(0, -1)", BAD).refused("send(0, 100001)", BAD);
            run.refused("send(0, MIN)", BAD).refused("send(0, MAX)", BAD);
            run.due("send(0, " + number + ")", 1).then("ticks(1)").due("about(0, 3)", number);
            run.due("number(0)", number).refused("close(-1)", BAD).refused("close(100001)", BAD);
            run.due("close(" + number + ")", 1);
        }
    }

    /** "ORDER (of k things, 2 to 5" */
    private static void ordersAreOf2To5Things() {
        Run run = Scenes.withBoxes(1);
        int[] bad = {-1, 0, 1, 6, 7, Integer.MAX_VALUE, Integer.MIN_VALUE};
        for (int k : bad) {
            run.refused("ask(2, " + k + ", 1)", BAD);
        }
        for (int k = 2; k <= 5; k++) {
            int[] rows = Scenes.answersOf(2, k);
            Run of = run.again().due("ask(2, " + k + ", 1)", 0);
            for (int other = 2; other <= 5; other++) {
                if (other != k) {
                    of.refused("send(0, " + Scenes.answersOf(2, other)[0] + ")", BAD);
                }
            }
            of.due("send(0, " + rows[0] + ")", 1).due("send(0, " + rows[1] + ")", 2);
            of.then("ticks(1)").due("order(0)", rows[1]).due("close(" + rows[1] + ")", 1);
        }
    }

    /** "a row of the figures 0 .. k - 1 as three bits each, .. all once" */
    private static void ordersHaveAllFiguresOnce() {
        for (int k = 2; k <= 5; k++) {
            int row = Scenes.answersOf(2, k)[0];
            int last = 3 * (k - 1);
            Run run = Scenes.withBoxes(1).then("ask(2, " + k + ", 1)");
            int[] bad = {0, -1, -row, row + (1 << last), row - (1 << last), row | 1, row | 7,
                row | 1 << 3 * k, row | 1 << 31, row | 1 << 30, row | 7 << last, 1 << 3 * k};
            for (int answer : bad) {
                run.refused("send(0, " + answer + ")", BAD);
            }
            run.due("send(0, " + row + ")", 1).then("ticks(1)");
            for (int answer : bad) {
                run.refused("close(" + answer + ")", BAD);
            }
            run.due("close(" + row + ")", 1);
        }
    }

    /** "the first one lowest": 2 0 1 is 2 + 0 * 8 + 1 * 64. */
    private static void ordersHaveTheFirstOneLowest() {
        Run run = answered(2, 3, 66, 66, 2 * 64 + 8);
        run.due("order(0)", 66).due("order(1)", 2).due("about(0, 3)", 66);
    }

    /** "SHOWN is nothing ahead of THE BELL if HIDDEN is set" */
    private static void shownIsNothingAheadOfTheBellIfHidden() {
        for (int kind = 0; kind <= 2; kind++) {
            for (int bell = 2; bell <= 4; bell++) {
                Run run = Scenes.withBoxes(1).then("ask(" + kind + ", 2, " + bell + ")");
                run.then("send(0, 1)", "rule(0, 1)");
                for (int tick = 1; tick <= 5; tick++) {
                    boolean shown = tick >= bell;
                    run.due("ticks(1)", tick);
                    run.due("answers()", shown ? 1 : NO);
                    run.due("share(1)", shown && kind == 0 ? 1 : NO);
                    run.due("number(0)", shown && kind == 1 ? 1 : NO);
                    run.due("order(0)", shown && kind == 2 ? 1 : NO);
                    run.due("about(0, 3)", 1).due("base(0, 0, 0)", 1).due("base(0, 0, 1)", 1);
                }
                run.due("rule(0, 0)", 1).due("answers()", 1);
            }
            Run open = Scenes.withBoxes(1).then("ask(" + kind + ", 2, 9)", "send(0, 1)");
            open.due("answers()", 0).then("ticks(1)").due("answers()", 1);
            open.refused("rule(0, 2)", BAD).due("answers()", 1);
        }
    }

    /** "nor SHARES, THE MIDDLE, ODD ones, THE JOINED ORDER if fewer than LEAST BOXES .." */
    private static void fewerThanLeastBoxes() {
        for (int kind = 0; kind <= 2; kind++) {
            for (int having = 0; having <= 16; having++) {
                int[] sent = filled(16, -1);
                Arrays.fill(sent, 16 - having, 16, 1);
                Run run = answered(kind, 2, sent);
                for (int least = Math.max(0, having - 1); least <= Math.min(16, having + 1); least++) {
                    run.then("rule(1, " + least + ")").due("answers()", having);
                    boolean shown = having >= least;
                    run.due("share(1)", shown && kind == 0 ? having : NO);
                    run.due("share(0)", shown && kind == 0 ? 0 : NO);
                    boolean number = shown && kind == 1 && having > 0;
                    run.due("number(0)", number ? 1 : NO).due("number(1)", number ? 0 : NO);
                    run.due("number(2)", number ? 0 : NO);
                    boolean order = shown && kind == 2 && having > 0;
                    run.due("order(0)", order ? 1 : NO).due("order(1)", order ? 0 : NO);
                }
            }
        }
    }

    /** "LEAST BOXES (0 to 16" */
    private static void least0To16() {
        Run run = Scenes.withBoxes(1);
        run.refused("rule(1, -1)", BAD).refused("rule(1, 17)", BAD);
        run.due("rule(1, 16)", 0).refused("rule(1, 17)", BAD).refused("rule(1, -1)", BAD);
        run.due("rule(1, 0)", 16).due("rule(1, 0)", 0);
    }

    /** "0 at first": without a rule even nobody's shares are shown. */
    private static void least0AtFirst() {
        answered(0, 0, -1).due("share(0)", 0).due("rule(1, 1)", 0).due("share(0)", NO)
                .due("rule(1, 0)", 1).due("share(0)", 0);
        new Run("ask(0, 0, 1)").due("answers()", 0).due("share(7)", 0);
    }

    /** "have an ANSWER": neither late ones nor those under way are counted for LEAST. */
    private static void leastCountsAnswersNotBoxes() {
        Run run = Scenes.withBoxes(3).then("road(1, 0, 0, 2)", "road(1, 1, 0, 2)", "rule(1, 2)");
        run.then("ask(0, 0, 1)", "send(0, 4)", "send(1, 4)", "ticks(1)", "send(2, 4)", "ticks(1)");
        run.due("answers()", 1).due("share(4)", NO).then("ticks(1)");
        run.due("answers()", 2).due("share(4)", 2).due("rule(1, 3)", 2).due("share(4)", NO);
    }

    /** "SHARES of CHOICES: how many BOXES have each." */
    private static void sharesAreHowManyBoxesHaveEach() {
        for (int choice = 0; choice <= 7; choice++) {
            Run run = answered(0, 0, filled(16, choice));
            for (int other = 0; other <= 7; other++) {
                run.due("share(" + other + ")", other == choice ? 16 : 0);
            }
        }
        Run each = answered(0, 0, 0, 1, 2, 3, 4, 5, 6, 7, -1);
        for (int choice = 0; choice <= 7; choice++) {
            each.due("share(" + choice + ")", 1);
        }
    }

    private static void numbers(int middle, int odd, int... answers) {
        Run run = answered(1, 0, answers);
        run.due("number(0)", middle).due("number(2)", odd);
        run.due("number(1)", Integer.bitCount(odd));
    }

    /** "in order, that in the middle (of an even number the lesser)": 1 to 16 numbers. */
    private static void middleOfAnEvenNumberIsTheLesser() {
        for (int size = 1; size <= 16; size++) {
            int[] up = new int[size];
            int[] down = new int[size];
            for (int i = 0; i < size; i++) {
                up[i] = 10 * (i + 1);
                down[size - 1 - i] = 10 * (i + 1);
            }
            int middle = 10 * ((size + 1) / 2);
            answered(1, 0, up).due("number(0)", middle);
            answered(1, 0, down).due("number(0)", middle);
        }
        answered(1, 0, 0, 100000).due("number(0)", 0);
        answered(1, 0, 100000, 0).due("number(0)", 0);
        answered(1, 0, 100000, 0, 100000).due("number(0)", 100000);
    }

    /** Boxes without an answer are on neither side of the middle, nor of the middle off. */
    private static void middleIsOfThoseWithAnAnswer() {
        numbers(30, 0, 20, -1, 30, -1, -1, 40, -1);
        numbers(20, 0, -1, -1, 10, 20, 30, 40, -1);
        // Offs 0, 2, 3, 7, their lesser middle is 2: with an off more of a silent box it were 3.
        numbers(10, 0b1000, 8, 10, 13, 17);
        numbers(10, 0b1000, 8, 10, 13, 17, -1);
        numbers(10, 0b10000, -1, 8, 10, -1, 17, 13);
        numbers(7, 0, -1, 7);
        numbers(7, 0, 7, -1, -1, -1);
    }

    /** "off THE MIDDLE by more than three times what the middle of all such offs is" */
    private static void oddIsMoreThanThreeTimes() {
        // Offs 0, 4, 5, 6 and the last one's; their middle is 5.
        numbers(100, 0, 100, 104, 95, 94, 115);
        numbers(100, 0b10000, 100, 104, 95, 94, 116);
        numbers(100, 0, 100, 104, 105, 94, 85);
        numbers(100, 0b10000, 100, 104, 105, 94, 84);
        // More than half have no off at all: whatever is off is odd.
        numbers(5, 0b01, 6, 5, 5);
        numbers(5, 0b110, 5, 4, 6, 5, 5);
        numbers(5, 0, 5, 5, 5);
        // It is odd no longer once it has sent another number, or others have.
        answered(1, 0, 5, 5, 5, 9).due("number(2)", 0b1000).then("send(3, 5)", "send(0, 4)",
                "ticks(1)").due("number(2)", 0b0001).due("number(1)", 1).then("send(1, 1)",
                "send(2, 2)", "ticks(1)").due("number(0)", 2).due("number(2)", 0);
    }

    /** "(of an even number the lesser)", for the middle of the offs. */
    private static void middleOffOfAnEvenNumberIsTheLesser() {
        // Offs 0, 2, 3 and the last one's: the lesser middle is 2, the greater one 3.
        numbers(10, 0, 8, 10, 13, 16);
        numbers(10, 0b1000, 8, 10, 13, 17);
        numbers(10, 0b1000, 8, 10, 13, 19);
        numbers(10, 0b10, 10, 11);
        // Six: offs 0, 1, 2, 3, 4 and the last one's: the lesser middle is 2.
        numbers(10, 0, 9, 10, 8, 13, 14, 16);
        numbers(10, 0b100000, 9, 10, 8, 13, 14, 17);
    }

    private static void oddAtTheGreatestOffs() {
        numbers(0, 0b100, 0, 0, 100000);
        numbers(100000, 0b001, 0, 100000, 100000);
        int[] many = filled(16, 100000);
        many[15] = 0;
        numbers(100000, 0x8000, many);
        // The middle off is 50000: three times that is above any off there can be.
        numbers(50000, 0, 0, 50000, 100000);
        numbers(0, 0b10, 0, 100000);
    }

    private static void orders(int k, int[] joined, int turned, int[]... answers) {
        int[] sent = new int[answers.length];
        for (int i = 0; i < sent.length; i++) {
            sent[i] = answers[i].length == 0 ? -1 : Check.order(answers[i]);
        }
        answered(2, k, sent).due("order(0)", Check.order(joined)).due("order(1)", turned);
    }

    private static int[] row(int... things) {
        return things;
    }

    /** "of all orders of k things that with the fewest TURNED pairs" */
    private static void fewestTurnedPairs() {
        orders(2, row(1, 0), 1, row(1, 0), row(0, 1), row(1, 0));
        orders(2, row(1, 0), 0, row(1, 0), row());
        // One pair turned more or less decides: 1 ahead of 0 twice, 0 ahead of 1 once.
        orders(5, row(1, 0, 2, 3, 4), 1, row(1, 0, 2, 3, 4), row(0, 1, 2, 3, 4),
                row(1, 0, 2, 3, 4));
        orders(5, row(4, 3, 2, 1, 0), 10, row(4, 3, 2, 1, 0), row(0, 1, 2, 3, 4),
                row(4, 3, 2, 1, 0));
        // What has the fewest turned pairs is sent by none of them.
        orders(5, row(0, 1, 2, 3, 4), 3, row(1, 0, 2, 3, 4), row(), row(0, 2, 1, 3, 4),
                row(0, 1, 2, 4, 3), row());
    }

    /** "of several that whose things, from the first on, are lower" */
    private static void ofSeveralTheLowerFromTheFirstOn() {
        orders(2, row(0, 1), 1, row(1, 0), row(0, 1));
        orders(3, row(0, 1, 2), 3, row(2, 1, 0), row(0, 1, 2));
        orders(5, row(0, 1, 2, 3, 4), 10, row(4, 3, 2, 1, 0), row(0, 1, 2, 3, 4));
        // The lower one from the first thing on is the greater number: 0 2 1 is 80, 2 0 1 is 66.
        orders(3, row(0, 2, 1), 1, row(2, 0, 1), row(0, 2, 1));
        // They part at the last pair only.
        orders(5, row(4, 3, 2, 0, 1), 1, row(4, 3, 2, 1, 0), row(4, 3, 2, 0, 1));
        orders(5, row(4, 3, 0, 1, 2), 3, row(4, 3, 0, 1, 2), row(4, 3, 2, 1, 0));
    }

    /** Of one answer, of each order of 2 to 5 things, the joined order is that one. */
    private static void oneOrNoneOfTheOrders() {
        answered(2, 2, -1, -1).due("order(0)", NO).due("order(1)", NO);
        for (int k = 2; k <= 5; k++) {
            Run run = Scenes.withBoxes(1).then("ask(2, " + k + ", 999)");
            int seen = 0;
            for (int code = 0; code < 1 << 3 * k; code++) {
                if (isOrder(code, k) && seen < 100) {
                    seen++;
                    run.due("send(0, " + code + ")", seen).then("ticks(1)");
                    run.due("order(0)", code).due("order(1)", 0);
                }
            }
            Check.holds("orders of " + k, seen == new int[] {2, 6, 24, 100}[k - 2]);
        }
    }

    private static boolean isOrder(int code, int k) {
        int seen = 0;
        for (int i = 0; i < k; i++) {
            seen |= 1 << (code >> 3 * i & 7);
        }
        return seen == (1 << k) - 1;
    }

    /** "of each BOX with an ANSWER whether it was RIGHT comes to it: 1 or 0; others -1" */
    private static void rightIs1Or0OthersAreLess() {
        Run run = page(Scenes.withBoxes(4), 0, 0, 7, -1, 0);
        run.due("book(0, 0)", 1).due("book(0, 1)", 0).due("book(0, 2)", -1).due("book(0, 3)", 1);
        run.due("box()", 4).due("book(0, 4)", -1).refused("book(0, 5)", -9);
        int[][] answers = {{0, 0}, {1, 0}, {2, 2}};
        for (int[] of : answers) {
            Run kind = Scenes.withBoxes(3).then("ask(" + of[0] + ", " + of[1] + ", 1)");
            int[] rows = Scenes.answersOf(of[0], of[1]);
            kind.then("send(1, " + rows[0] + ")", "send(2, " + rows[1] + ")", "ticks(1)");
            kind.due("close(" + rows[0] + ")", 1);
            kind.due("book(0, 0)", -1).due("book(0, 1)", 1).due("book(0, 2)", 0);
        }
    }

    /** "20 QUESTIONS at most" */
    private static void twentyQuestionsAtMost() {
        Run run = Scenes.withBoxes(1);
        for (int i = 0; i < 20; i++) {
            run.due("count(2)", i).refused("book(" + i + ", 0)", -9);
            page(run, 1, i < 19 ? 1 : 2).due("book(" + i + ", 0)", i < 19 ? 1 : 0);
        }
        run.due("ask(0, 0, 21)", 0).due("send(0, 1)", 1).due("ticks(1)", 21);
        run.refused("close(1)", FULL).refused("book(20, 0)", -9);
        run.due("count(2)", 20).due("count(3)", 1).due("marks(0)", 19).due("share(1)", 1);
    }

    /** "MARKS of a BOX are how often it was RIGHT.": 0 to 20 times. */
    private static void marksAreHowOftenItWasRight() {
        Run run = Scenes.withBoxes(3);
        for (int i = 0; i < 20; i++) {
            run.due("marks(0)", i).due("marks(1)", 0).due("marks(2)", (i + 1) / 2);
            page(run, 3, 3, 4, i % 2 == 0 ? 3 : -1);
        }
        run.due("marks(0)", 20).due("marks(1)", 0).due("marks(2)", 10);
    }

    /** "Letters under way are gone then" */
    private static void lettersUnderWayAreGoneThen() {
        for (int delay = 0; delay <= 9; delay++) {
            Run run = Scenes.withBoxes(1).then("road(0, 0, 0, " + delay + ")",
                    "road(0, 1, 0, " + delay + ")", "ask(0, 0, 1)", "send(0, 3)", "ticks(1)");
            run.due("count(4)", delay == 0 ? 0 : 2).due("close(3)", delay == 0 ? 1 : 0);
            run.due("count(4)", 0).due("about(0, 2)", delay == 0 ? 1 : 0);
            run.then("ticks(10)").due("about(0, 3)", delay == 0 ? 3 : NONE);
            run.due("base(0, 0, 3)", delay == 0 ? 1 : NONE).due("count(5)", 2);
            run.then("ask(0, 0, 99)", "ticks(10)").due("about(0, 3)", NONE).due("count(5)", 2);
        }
        // The next question is asked ahead of the tick in which the letter was due.
        Run next = Scenes.withBoxes(1).then("road(0, 0, 0, 9)", "road(0, 1, 0, 9)",
                "ask(0, 0, 1)", "send(0, 3)", "ticks(1)", "close(3)", "ask(0, 0, 20)");
        next.then("ticks(12)").due("about(0, 3)", NONE).due("about(0, 0)", 0).due("count(4)", 0);
    }

    /** "what BASES have stays till the next QUESTION" */
    private static void whatBasesHaveStaysTillTheNextQuestion() {
        Run run = Scenes.withBoxes(1).then("ask(0, 0, 1)", "send(0, 3)", "ticks(1)",
                "send(0, 4)", "ticks(1)");
        int[] due = {3, 1, 2, 2};
        for (int close = 0; close < 2; close++) {
            for (int what = 0; what <= 3; what++) {
                run.due("base(0, 0, " + what + ")", due[what]);
                run.due("base(1, 0, " + what + ")", due[what]);
            }
            run.due("about(0, 3)", 3);
            run.then(close == 0 ? "close(4)" : "ticks(9)");
        }
        run.due("about(0, 3)", 3).refused("ask(3, 0, 99)", BAD).due("about(0, 3)", 3);
        run.due("ask(0, 0, 99)", 0).due("about(0, 3)", NONE);
        for (int what = 0; what <= 3; what++) {
            run.due("base(0, 0, " + what + ")", NONE).due("base(1, 0, " + what + ")", NONE);
        }
    }

    /** "BOXES (12 at most) parted into two sets" */
    private static void teamsOf12BoxesAtMost() {
        Run run = Scenes.withBoxes(16);
        run.due("teams(0b111111111111, 0)", 0b111111).due("teams(0b111111111111, 1)", 0);
        run.due("teams(0b1111111111110000, 0)", 0b1111110000);
        run.due("teams(0b1010111011110111, 0)", 0b0000000001110111);
        run.refused("teams(0b1111111111111, 0)", BAD).refused("teams(0b1111111111111, 1)", BAD);
        run.refused("teams(0b1111111111111000, 0)", BAD).refused("teams(0b1110111011110111, 1)", BAD);
        run.refused("teams(65535, 0)", BAD).refused("teams(65535, 1)", BAD);
    }

    /** Boxes with marks as told, each 0 to 20. */
    private static Run marked(int... marks) {
        Run run = Scenes.withBoxes(marks.length);
        int most = Arrays.stream(marks).max().orElse(0);
        for (int i = 0; i < most; i++) {
            int[] sent = new int[marks.length];
            for (int box = 0; box < marks.length; box++) {
                sent[box] = i < marks[box] ? 1 : -1;
            }
            page(run, 1, sent);
        }
        return run;
    }

    /** "of sizes that differ by 1 at most": ahead of how even they are. */
    private static void sizesDifferBy1AtMost() {
        // 3 against 1 + 1 + 1 would be even.
        marked(3, 1, 1, 1).due("teams(15, 0)", 0b0011).due("teams(15, 1)", 2);
        marked(0, 0, 0, 2).due("teams(15, 0)", 0b0011).due("teams(15, 1)", 2);
        // Of five the lowest box's team is of two or of three.
        marked(4, 0, 1, 1, 2).due("teams(31, 0)", 0b00011).due("teams(31, 1)", 0);
        marked(0, 1, 0, 2, 1).due("teams(31, 0)", 0b01001).due("teams(31, 1)", 0);
        marked(0, 0, 1, 1, 2).due("teams(31, 0)", 0b01101).due("teams(31, 1)", 0);
        marked(1, 1).due("teams(3, 0)", 1).due("teams(3, 1)", 0);
        marked(0, 3).due("teams(3, 0)", 1).due("teams(3, 1)", 3);
        marked(2, 1, 1).due("teams(7, 0)", 1).due("teams(7, 1)", 0);
        marked(1, 1, 2).due("teams(7, 0)", 3).due("teams(7, 1)", 0);
    }

    /** "of several the one that has the lowest BOX in it, and as bits is least, is told" */
    private static void ofSeveralTeamsTheLeastWithTheLowestBox() {
        marked(1, 1, 1, 1).due("teams(15, 0)", 0b0011);
        marked(1, 0, 1, 0).due("teams(15, 0)", 0b0011);
        marked(1, 1, 0, 0).due("teams(15, 0)", 0b0101);
        marked(2, 1, 1, 0).due("teams(15, 0)", 0b1001).due("teams(14, 0)", 0b0010);
        // Of three boxes alike the team of one is less as bits than that of two.
        marked(1, 1, 1).due("teams(7, 0)", 0b001).due("teams(7, 1)", 1);
        marked(0, 0, 0, 0).due("teams(14, 0)", 0b0010).due("teams(10, 0)", 0b0010)
                .due("teams(12, 0)", 0b0100).due("teams(9, 0)", 0b0001);
    }

    /** "that of which the lesser of RIGHT and not RIGHT ones is greatest" */
    private static void lesserOfRightAndNotRightIsGreatest() {
        Run run = Scenes.withBoxes(6).refused("best()", NONE);
        page(run, 1, 1, 1, 1, 1, 1, 1).due("best()", 0);
        page(run, 1, 1, 1, 1, 1, 1, 0).due("best()", 1);
        page(run, 1, 1, 1, 1, 1, 1, 1).due("best()", 1);
        page(run, 1, 0, 0, 0, 0, 1, 1).due("best()", 3);
        page(run, 1, 1, 1, 1, 1, 1, 0).due("best()", 3);
        page(run, 1, 1, 1, 1, 0, 0, 0).due("best()", 5);
        page(run, 1, 1, 1, 1, 1, 0, 0).due("best()", 5);
        // Those without an answer are on neither side: 3 and 1, not 3 and 3.
        page(run, 1, 1, 1, 1, 0, -1, -1).due("best()", 5);
    }

    /** "of several the latest" */
    private static void ofSeveralQuestionsTheLatest() {
        Run run = Scenes.withBoxes(3);
        page(run, 1, -1, -1, -1).due("best()", 0);
        page(run, 1, 0, 0, 0).due("best()", 1);
        page(run, 1, 1, 1, 1).due("best()", 2);
        page(run, 1, 1, 0, 0).due("best()", 3);
        page(run, 1, 1, 1, 0).due("best()", 4);
        page(run, 1, 0, -1, 1).due("best()", 5);
        page(run, 1, 0, 0, 0).due("best()", 5);
        Run one = Scenes.withBoxes(1);
        for (int i = 0; i < 20; i++) {
            page(one, 1, i % 2).due("best()", i);
        }
    }

    /** "SEED times 48271 modulo 2147483647 again and again", past what an int can hold. */
    private static void seedTimes48271Modulo2147483647() {
        int[] seeds = {1, 2, 44488, 44489, 44490, 1073741823, 1073741824, 2147483645, 2147483646};
        for (int seed : seeds) {
            Run run = Scenes.withBoxes(16).due("seed(" + seed + ")", 16);
            java.util.List<Integer> left = new java.util.ArrayList<>();
            for (int box = 0; box < 16; box++) {
                left.add(box);
            }
            java.math.BigInteger at = java.math.BigInteger.valueOf(seed);
            for (int i = 16; i > 0; i--) {
                at = at.multiply(java.math.BigInteger.valueOf(48271))
                        .mod(java.math.BigInteger.valueOf(2147483647));
                run.due("draw()", left.remove(at.intValue() % i));
            }
            run.refused("draw()", NONE);
        }
        Run run = Scenes.withBoxes(1);
        run.refused("seed(0)", BAD).refused("seed(2147483647)", BAD).refused("draw()", NO);
    }

    /** "of BOXES not yet drawn the one at it modulo how many there are" */
    private static void ofBoxesNotYetDrawn() {
        for (int boxes = 0; boxes <= 16; boxes++) {
            Run run = Scenes.withBoxes(boxes).due("seed(123456789)", boxes);
            int drawn = 0;
            for (int i = 0; i < boxes; i++) {
                drawn |= 1 << run.answer("draw()");
            }
            Check.due("each once", drawn, (1 << boxes) - 1);
            run.refused("draw()", NONE).refused("draw()", NONE);
            run.due("seed(5)", boxes);
            Check.holds("told anew", (run.answer("draw()") >= 0) == (boxes > 0));
        }
    }
}
