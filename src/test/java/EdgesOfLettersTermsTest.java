/**
 * The sentences of 'What it is' and of 'Terms' about boxes, roads, letters and bases that
 * name a boundary: a test for each, named by its words, on both sides of the boundary.
 */
public final class EdgesOfLettersTermsTest {
    private static final int BAD = ClassAnswers.BAD;
    private static final int NO = ClassAnswers.NO;
    private static final int FULL = ClassAnswers.FULL;
    private static final int NONE = ClassAnswers.NONE;

    public static void main(String[] args) {
        usedForAtMost512Calls();
        laterCallsDoNotThrow();
        boxes0To15AsTheyCome();
        eachCountedOnceByTwoBases();
        lettersGoToBases0And1();
        ticksGoOnFrom0();
        rowOf16BitsTakenAgainAndAgain();
        ownPlaceGoingOnByOneForEachTry();
        delay0To9();
        both0AtFirst();
        oneAtATime();
        bellIsATick();
        countFrom0WithEachQuestion();
        sentInTheTickAboutToBegin();
        whoseLatestAnswerIsNotYetAcknowledged();
        fiveTriesAtMostByEach();
        fiveTriesForEachAnswer();
        dueComesBehindAllTries();
        withAnswerCountAndTick();
        acknowledgesThatCount();
        keepsTheGreatestCount();
        keepsTheLatestOneTooLateBesideIt();
        answerIsOfBothBases();
        answerIfTheBasesGotAnySuch();
        Check.end();
    }

    /** "An object is used for at most 512 calls": the 512th is answered as the first ones. */
    private static void usedForAtMost512Calls() {
        Run sends = new Run("box()", "ask(1, 0, 100000)");
        for (int i = 1; i <= 510; i++) {
            sends.due("send(0, " + i + ")", i);
        }
        Check.due("calls", sends.calls(), 512);
        Run letters = new Run("box()", "road(0, 0, 0, 9)", "road(0, 1, 0, 9)", "ask(1, 0, 1000)");
        for (int i = 1; i <= 253; i++) {
            letters.due("send(0, " + i + ")", i).due("ticks(1)", i);
        }
        lastTwo(letters, "count(4)", 18, "base(1, 0, 1)", 244);
        lastTwo(letters, "about(0, 3)", 244, "count(5)", 506);
        lastTwo(letters, "ticks(2)", 255, "number(0)", 246);
        lastTwo(letters, "close(1)", NO, "ticks(200)", 453);
    }

    private static void lastTwo(Run of, String call, int want, String last, int lastWant) {
        Run run = of.again().due(call, want).due(last, lastWant);
        Check.due("calls", run.calls(), Run.MOST_CALLS);
    }

    /** "what later calls answer is free", but LANGUAGE.md's rule 7 still holds for them. */
    private static void laterCallsDoNotThrow() {
        ClassAnswers x = new ClassAnswers();
        int[] odd = {Integer.MIN_VALUE, -1, 0, 1, 2, 7, 8, 15, 16, 4095, 65535, Integer.MAX_VALUE};
        for (int round = 0; round < 200; round++) {
            callAll(x, odd[round % odd.length], odd[round * 5 % odd.length], round);
        }
        Check.holds("4000 calls came to their end", x.count(0) > 0);
    }

    private static void callAll(ClassAnswers x, int v, int w, int round) {
        x.box();
        x.road(v, w, w, v);
        x.rule(v, w);
        x.ask(round % 4, w, round % 3 == 0 ? v : x.count(1) + 1 + round % 5);
        x.send(round % 17, w);
        x.ticks(round % 203);
        x.base(v, w, v);
        x.about(w, v);
        x.answers();
        x.share(v);
        x.number(v);
        x.order(w);
        x.close(v);
        x.book(w, v);
        x.marks(v);
        x.teams(v, w);
        x.best();
        x.seed(v);
        x.draw();
        x.count(v);
    }

    /** "BOXES 0 to 15 as they come." */
    private static void boxes0To15AsTheyCome() {
        Run run = new Run();
        run.refused("about(0, 0)", BAD);
        for (int i = 0; i < 16; i++) {
            run.refused("marks(" + i + ")", BAD).due("box()", i).due("marks(" + i + ")", 0);
        }
        run.refused("box()", FULL).refused("marks(16)", BAD).refused("marks(-1)", BAD);
        run.due("ask(0, 0, 9)", 0).due("send(15, 3)", 1).due("send(0, 4)", 1)
                .refused("send(16, 3)", BAD).refused("send(-1, 3)", BAD).due("ticks(1)", 1);
        run.due("about(15, 3)", 3).due("about(0, 3)", 4).due("about(14, 3)", NONE);
    }

    /** "each counted once by two bases": one that both got is one answer. */
    private static void eachCountedOnceByTwoBases() {
        Run run = Scenes.withBoxes(2).then("ask(0, 0, 5)", "send(0, 2)", "send(1, 2)");
        run.due("ticks(1)", 1).due("base(0, 0, 0)", 2).due("base(1, 0, 0)", 2);
        run.due("answers()", 2).due("share(2)", 2);
        run.then("send(0, 2)", "ticks(4)").due("share(2)", 2).due("answers()", 2);
        run.due("close(2)", 2).due("marks(0)", 1).due("marks(1)", 1);
    }

    /** "LETTERS go to BASES 0 and 1." */
    private static void lettersGoToBases0And1() {
        Run run = Scenes.withBoxes(1);
        run.due("road(0, 0, 0, 0)", 0).due("road(0, 1, 0, 0)", 0);
        run.refused("road(0, -1, 65535, 9)", BAD).refused("road(0, 2, 65535, 9)", BAD);
        run.then("ask(0, 0, 5)", "send(0, 6)", "ticks(1)");
        run.due("base(0, 0, 0)", 6).due("base(1, 0, 0)", 6);
        run.refused("base(-1, 0, 0)", BAD).refused("base(2, 0, 0)", BAD);
        run.due("count(5)", 2);
    }

    /** "TICKS go on from 0." */
    private static void ticksGoOnFrom0() {
        Run run = new Run();
        run.due("count(1)", 0).refused("ask(0, 0, 0)", BAD).due("ask(0, 0, 1)", 0);
        run.due("ticks(1)", 1).due("count(1)", 1).due("ticks(1)", 2).due("ticks(200)", 202);
        run.due("close(0)", 0).due("count(1)", 202).due("ticks(3)", 205);
    }

    /** Sends and lets one tick go by: whether a base got that letter in it. */
    private static void trysWay(Run run, int box, int base, boolean lost) {
        int count = run.answer("send(" + box + ", 1)");
        run.then("ticks(1)");
        boolean got = run.answer("base(" + base + ", " + box + ", 3)") == count;
        Check.holds("letter " + count + " of box " + box + " to base " + base + " lost: " + lost,
                got != lost);
    }

    /** "a row of 16 bits, taken again and again": for each bit, three times round. */
    private static void rowOf16BitsTakenAgainAndAgain() {
        for (int base = 0; base < 2; base++) {
            for (int bit = 0; bit < 16; bit++) {
                Run run = Scenes.withBoxes(1);
                run.due("road(0, " + base + ", " + (1 << bit) + ", 0)", 0).then("ask(0, 0, 999)");
                for (int i = 0; i < 48; i++) {
                    trysWay(run, 0, base, i % 16 == bit);
                }
            }
        }
        Run run = Scenes.withBoxes(1).then("road(0, 0, 65534, 0)", "ask(0, 0, 999)");
        for (int i = 0; i < 33; i++) {
            trysWay(run, 0, 0, i % 16 != 0);
        }
    }

    /** "its own place in it going on by one for each try": not for ticks, not for others. */
    private static void ownPlaceGoingOnByOneForEachTry() {
        Run run = Scenes.withBoxes(2);
        run.then("road(0, 0, 0b010, 0)", "road(0, 1, 65535, 0)", "road(1, 0, 0b010, 0)");
        run.then("ask(0, 0, 999)", "ticks(20)");
        trysWay(run, 0, 0, false);
        run.then("ticks(20)");
        trysWay(run, 1, 0, false);
        trysWay(run, 1, 0, true);
        trysWay(run, 1, 0, false);
        run.due("road(0, 1, 0b010, 0)", 0);
        int tries = run.answer("count(5)");
        // Laid anew is the road to base 1 alone: base 0's is at bit 1, base 1's at bit 0.
        run.then("send(0, 3)", "ticks(1)").due("base(0, 0, 3)", 1).due("base(1, 0, 3)", 2);
        run.due("count(5)", tries + 2);
        run.then("send(0, 4)", "ticks(1)").due("base(0, 0, 3)", 3).due("base(1, 0, 3)", 2);
        // Questions come and go, the places stay.
        for (int base = 0; base < 2; base++) {
            Run next = Scenes.withBoxes(1).then("road(0, " + base + ", 0b0101, 0)");
            for (int question = 0; question < 4; question++) {
                next.then("ask(0, 0, " + (question + 1) + ")");
                trysWay(next, 0, base, question % 2 == 0);
                next.due("close(1)", 1);
            }
        }
    }

    /** "a DELAY (0 to 9 TICKS": it comes in the tick so many later, not the one ahead. */
    private static void delay0To9() {
        for (int base = 0; base < 2; base++) {
            for (int delay = 0; delay <= 9; delay++) {
                Run run = Scenes.withBoxes(1);
                run.then("road(0, " + (1 - base) + ", 65535, 0)");
                run.due("road(0, " + base + ", 0b1111111111111110, " + delay + ")", 0);
                run.then("ask(0, 0, 999)", "send(0, 3)");
                for (int tick = 0; tick < delay; tick++) {
                    run.then("ticks(1)").due("about(0, 3)", NONE).due("count(4)", 1);
                }
                run.then("ticks(1)").due("about(0, 3)", 3).due("count(4)", 0);
                run.refused("road(0, " + base + ", 0, -1)", BAD);
                run.refused("road(0, " + base + ", 0, 10)", BAD);
            }
        }
    }

    /** "both 0 at first": a new road loses nothing and has no delay, for each box. */
    private static void both0AtFirst() {
        Run run = Scenes.withBoxes(16).then("ask(0, 0, 99)");
        for (int box = 0; box < 16; box++) {
            run.then("send(" + box + ", 2)");
        }
        run.then("ticks(1)").due("count(4)", 0).due("count(5)", 32);
        for (int box = 0; box < 16; box++) {
            run.due("base(0, " + box + ", 3)", 1).due("base(1, " + box + ", 3)", 1);
        }
    }

    /** "A QUESTION is ASKED (one at a time)" */
    private static void oneAtATime() {
        Run run = Scenes.withBoxes(1).due("count(3)", 0).due("ask(1, 0, 3)", 0).due("count(3)", 1);
        run.refused("ask(1, 0, 3)", NO).refused("ask(0, 0, 9)", NO).due("send(0, 90000)", 1);
        run.then("ticks(3)").refused("ask(0, 0, 9)", NO).due("close(90000)", 1).due("count(3)", 0);
        run.due("ask(0, 0, 9)", 0).due("count(3)", 1);
    }

    /** "a BELL, a TICK": the first and the last one that there can be. */
    private static void bellIsATick() {
        new Run().refused("ask(0, 0, 0)", BAD).due("ask(0, 0, 1)", 0);
        new Run().refused("ask(0, 0, 100001)", BAD).due("ask(0, 0, 100000)", 0);
        new Run("ticks(7)").refused("ask(0, 0, 7)", BAD).due("ask(0, 0, 8)", 0)
                .refused("close(0)", NO).due("ticks(1)", 8).due("close(0)", 0);
    }

    /** "its own COUNT one more (from 0 with each QUESTION) for each" */
    private static void countFrom0WithEachQuestion() {
        Run run = Scenes.withBoxes(2).then("ask(0, 0, 1)");
        run.due("about(0, 0)", 0).due("send(0, 1)", 1).due("send(0, 1)", 2).due("about(0, 0)", 2);
        run.due("about(1, 0)", 0).due("send(1, 1)", 1).due("about(0, 0)", 2);
        run.refused("send(0, 8)", BAD).due("send(0, 1)", 3);
        run.then("ticks(1)", "close(1)").due("about(0, 0)", 3).due("about(0, 1)", 2);
        run.due("about(0, 2)", 1).then("ask(0, 0, 9)").due("about(0, 1)", 0).due("about(0, 2)", 0);
        run.due("about(0, 0)", 0).due("about(1, 0)", 0).due("send(0, 1)", 1).due("send(1, 1)", 1);
    }

    /** "from the one about to begin on (it is SENT in that)"; "SENT ahead of THE BELL's TICK" */
    private static void sentInTheTickAboutToBegin() {
        for (int bell = 1; bell <= 4; bell++) {
            for (int sent = 0; sent <= 5; sent++) {
                Run run = Scenes.withBoxes(1).then("ask(0, 0, " + bell + ")");
                run.then(sent > 0 ? new String[] {"ticks(" + sent + ")"} : new String[0]);
                run.due("send(0, 3)", 1).due("about(0, 1)", 0).due("ticks(1)", sent + 1);
                boolean inTime = sent < bell;
                run.due("about(0, 1)", 2).due("about(0, 3)", inTime ? 3 : NONE);
                run.due("base(0, 0, 1)", inTime ? 1 : NONE).due("base(0, 0, 2)", inTime ? NONE : 1);
            }
        }
    }

    /** "whose latest answer is not yet ACKNOWLEDGED try": none sent, or known: no try. */
    private static void whoseLatestAnswerIsNotYetAcknowledged() {
        Run run = Scenes.withBoxes(2).then("ask(0, 0, 99)");
        run.then("ticks(3)").due("count(5)", 0).due("about(0, 1)", 0).due("about(0, 2)", 0);
        run.then("send(0, 1)", "ticks(1)").due("about(0, 2)", 1).due("count(5)", 2);
        run.then("ticks(9)").due("count(5)", 2).due("about(0, 1)", 2).due("about(1, 1)", 0);
        run.then("send(0, 1)").due("about(0, 2)", 0).then("ticks(9)").due("count(5)", 4);
    }

    /** "5 tries at most by each": the fifth is made, a sixth is not. */
    private static void fiveTriesAtMostByEach() {
        for (int base = 0; base < 2; base++) {
            String other = "road(0, " + (1 - base) + ", 65535, 0)";
            Run fifth = Scenes.withBoxes(1).then(other, "road(0, " + base + ", 0b01111, 0)");
            fifth.then("ask(0, 0, 99)", "send(0, 3)", "ticks(4)").due("about(0, 3)", NONE)
                    .due("about(0, 1)", 8).then("ticks(1)").due("about(0, 3)", 3)
                    .due("about(0, 1)", 10);
            Run sixth = Scenes.withBoxes(1).then(other, "road(0, " + base + ", 0b11111, 0)");
            sixth.then("ask(0, 0, 99)", "send(0, 3)", "ticks(5)").due("about(0, 1)", 10)
                    .then("ticks(1)").due("about(0, 1)", 10).due("about(0, 3)", NONE)
                    .then("ticks(200)").due("about(0, 3)", NONE).due("count(5)", 10)
                    .due("about(0, 2)", 0);
        }
    }

    /** "5 tries at most by each for each answer": a new one has its own five. */
    private static void fiveTriesForEachAnswer() {
        for (int ahead = 0; ahead <= 6; ahead++) {
            Run run = Scenes.withBoxes(1).then("road(0, 0, 65535, 0)", "road(0, 1, 65535, 0)");
            run.then("ask(0, 0, 99)", "send(0, 3)");
            for (int i = 1; i <= ahead; i++) {
                run.then("ticks(1)").due("about(0, 1)", 2 * Math.min(5, i));
            }
            run.due("send(0, 3)", 2).due("about(0, 1)", 0).then("ticks(4)").due("about(0, 1)", 8);
            run.then("ticks(9)").due("about(0, 1)", 10).due("count(5)", 10 + 2 * Math.min(5, ahead));
        }
    }

    /** "What is due in a TICK comes behind all tries of it": so one try more is made. */
    private static void dueComesBehindAllTries() {
        for (int base = 0; base < 2; base++) {
            for (int delay = 0; delay <= 9; delay++) {
                Run run = Scenes.withBoxes(1).then("road(0, " + base + ", 0, " + delay + ")",
                        "road(0, " + (1 - base) + ", 65535, 0)", "ask(0, 0, 99)", "send(0, 1)");
                run.then("ticks(30)").due("about(0, 1)", 2 * Math.min(5, delay + 1));
                run.due("about(0, 2)", 1).due("count(4)", 0);
            }
        }
    }

    /** "comes DELAY TICKS later, with answer, COUNT and the TICK in which it was SENT" */
    private static void withAnswerCountAndTick() {
        Run run = Scenes.withBoxes(1).then("road(0, 0, 0, 9)", "road(0, 1, 65535, 0)");
        run.then("ask(1, 0, 4)", "ticks(3)", "send(0, 11)", "ticks(1)", "send(0, 22)");
        // Sent in ticks 3 and 4, the bell is 4: in 12 the first comes, in 13 the second.
        run.then("ticks(8)").due("count(1)", 12).due("about(0, 3)", NONE);
        run.then("ticks(1)").due("base(0, 0, 0)", 11).due("base(0, 0, 1)", 1)
                .due("base(0, 0, 2)", NONE).due("base(0, 0, 3)", 1);
        run.then("ticks(1)").due("base(0, 0, 0)", 11).due("base(0, 0, 1)", 1)
                .due("base(0, 0, 2)", 2).due("base(0, 0, 3)", 2).due("about(0, 3)", 11);
    }

    /** "ACKNOWLEDGES that COUNT at once (that is never lost)": that one, no newer one. */
    private static void acknowledgesThatCount() {
        for (int base = 0; base < 2; base++) {
            Run run = Scenes.withBoxes(1).then("road(0, " + base + ", 0, 2)",
                    "road(0, " + (1 - base) + ", 65535, 0)", "ask(0, 0, 99)", "send(0, 1)",
                    "ticks(1)", "send(0, 2)", "road(0, " + base + ", 0b1, 0)", "ticks(1)");
            run.due("about(0, 2)", 0).due("base(" + base + ", 0, 3)", NONE);
            // Behind tick 2 both the first one and the second one have come.
            run.then("ticks(1)").due("about(0, 2)", 1).due("base(" + base + ", 0, 3)", 2);
            run.due("base(" + (1 - base) + ", 0, 3)", NONE).due("about(0, 1)", 4);
            Run old = Scenes.withBoxes(1).then("road(0, " + base + ", 0, 1)",
                    "road(0, " + (1 - base) + ", 65535, 0)", "ask(0, 0, 99)", "send(0, 1)",
                    "ticks(1)", "send(0, 2)", "road(0, " + base + ", 65535, 0)", "ticks(9)");
            old.due("base(" + base + ", 0, 3)", 1).due("about(0, 2)", 0).due("about(0, 1)", 10);
        }
    }

    /** "A BASE keeps of each BOX what has the greatest COUNT": what comes later may be older. */
    private static void keepsTheGreatestCount() {
        for (int base = 0; base < 2; base++) {
            String slow = "road(0, " + base + ", 0, 5)";
            String fast = "road(0, " + base + ", 0, 0)";
            Run run = Scenes.withBoxes(1).then("road(0, " + (1 - base) + ", 65535, 0)", slow);
            run.then("ask(0, 0, 99)", "send(0, 1)", "ticks(1)", fast, "send(0, 2)", "ticks(1)");
            run.due("base(" + base + ", 0, 0)", 2).due("count(4)", 1).then("ticks(9)");
            run.due("count(4)", 0).due("base(" + base + ", 0, 0)", 2);
            run.due("base(" + base + ", 0, 1)", 2).due("base(" + base + ", 0, 3)", 2);
            run.then("send(0, 4)", "ticks(1)").due("base(" + base + ", 0, 0)", 4);
            run.due("base(" + base + ", 0, 1)", 3);
        }
    }

    /** "and the latest one that was SENT too late beside it": older ones do not replace it. */
    private static void keepsTheLatestOneTooLateBesideIt() {
        for (int base = 0; base < 2; base++) {
            String slow = "road(0, " + base + ", 0, 5)";
            String fast = "road(0, " + base + ", 0, 0)";
            Run run = Scenes.withBoxes(1).then("road(0, " + (1 - base) + ", 65535, 0)", slow);
            run.then("ask(0, 0, 1)", "send(0, 1)", "ticks(1)", "send(0, 2)", "ticks(1)", fast);
            run.then("send(0, 3)", "ticks(1)").due("base(" + base + ", 0, 2)", 3);
            run.due("base(" + base + ", 0, 0)", NONE).due("base(" + base + ", 0, 3)", 3);
            run.then("ticks(9)").due("base(" + base + ", 0, 2)", 3);
            // The one in time came behind the late one, and stands beside it.
            run.due("base(" + base + ", 0, 0)", 1).due("base(" + base + ", 0, 1)", 1);
            run.due("base(" + base + ", 0, 3)", 3).due("about(0, 3)", 1);
            run.then("send(0, 4)", "ticks(1)").due("base(" + base + ", 0, 2)", 4);
        }
    }

    /** "of what both BASES have, that with the greatest COUNT SENT ahead of THE BELL's TICK" */
    private static void answerIsOfBothBases() {
        for (int base = 0; base < 2; base++) {
            Run run = Scenes.withBoxes(1).then("road(0, " + base + ", 0b010, 0)",
                    "road(0, " + (1 - base) + ", 0b101, 0)", "ask(0, 0, 2)");
            run.then("send(0, 1)", "ticks(1)").due("about(0, 3)", 1);
            run.then("send(0, 2)", "ticks(1)").due("about(0, 3)", 2);
            run.due("base(" + base + ", 0, 0)", 1).due("base(" + (1 - base) + ", 0, 0)", 2);
            // Too late: it is kept by one base, and is no answer.
            run.then("send(0, 3)", "ticks(1)").due("base(" + base + ", 0, 2)", 3);
            run.due("about(0, 3)", 2).due("answers()", 1).due("share(2)", 1).due("share(3)", 0);
        }
    }

    /** "if the BASES got any such": none, and none in time, is no answer. */
    private static void answerIfTheBasesGotAnySuch() {
        Run run = Scenes.withBoxes(3).then("road(1, 0, 65535, 0)", "road(1, 1, 65535, 0)");
        run.then("ask(0, 0, 1)", "send(1, 0)", "ticks(1)", "send(2, 0)", "ticks(6)");
        for (int box = 0; box < 3; box++) {
            run.due("about(" + box + ", 3)", NONE);
        }
        run.due("answers()", 0).due("share(0)", 0).due("close(0)", 0);
        for (int box = 0; box < 3; box++) {
            run.due("book(0, " + box + ")", -1).due("marks(" + box + ")", 0);
        }
        Run zero = Scenes.withBoxes(1).then("ask(0, 0, 1)", "send(0, 0)", "ticks(1)");
        zero.due("about(0, 3)", 0).due("answers()", 1).due("share(0)", 1).due("close(0)", 1);
    }
}
