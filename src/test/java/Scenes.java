/** Objects as they stand at different times of a lesson. */
final class Scenes {
    private Scenes() {
    }

    static Run withBoxes(int n) {
        Run run = new Run();
        for (int i = 0; i < n; i++) {
            run.due("box()", i);
        }
        return run;
    }

    /** Four boxes with roads of all sorts, LEAST 1, a seed told and one lot drawn. */
    static Run prepared() {
        return withBoxes(4).then("road(0, 0, 0b01101001, 1)", "road(0, 1, 0b10010110, 3)",
                "road(1, 0, 65535, 0)", "road(1, 1, 0b1011, 2)",
                "road(2, 0, 0b10, 0)", "road(2, 1, 65535, 9)",
                "rule(1, 1)", "seed(7)", "draw()");
    }

    /** The same with two questions in the book: one right and two not, then two right. */
    static Run withBook() {
        return prepared().then("ask(0, 0, 2)", "send(2, 3)", "send(3, 4)", "send(0, 4)",
                "ticks(3)", "close(3)",
                "ask(1, 0, 6)", "send(2, 50)", "send(3, 50)", "send(1, 9)",
                "ticks(4)", "close(50)");
    }

    /** The same and a third question, which all boxes had right: each has marks. */
    static Run withMarks() {
        return withBook().then("ask(0, 0, 30)", "send(0, 1)", "send(1, 1)", "send(2, 1)",
                "send(3, 1)", "ticks(23)").due("close(1)", 4);
    }

    /** As many boxes as there can be, with marks, some lots drawn and rules set. */
    static Run wholeClass() {
        Run run = withBoxes(16).then("road(0, 0, 0b0110, 3)", "road(15, 1, 0b101, 9)",
                "seed(11)", "draw()", "draw()", "ask(0, 0, 9)");
        for (int box = 0; box < 16; box++) {
            run.due("send(" + box + ", " + box % 3 + ")", 1);
        }
        return run.then("ticks(10)").due("close(0)", 6).then("rule(0, 1)", "rule(1, 2)");
    }

    /** One is asked; some letters have come, some are under way, roads are in mid row. */
    static Run asked(int kind, int k) {
        int[] answers = answersOf(kind, k);
        return withBook().due("ask(" + kind + ", " + k + ", 12)", 0)
                .then("send(0, " + answers[0] + ")", "send(1, " + answers[1] + ")",
                        "send(3, " + answers[0] + ")", "ticks(2)",
                        "send(3, " + answers[1] + ")", "send(2, " + answers[1] + ")", "ticks(1)")
                .due("count(1)", 10);
    }

    /** The same in the tick of the bell, an answer sent too late among those under way. */
    static Run atTheBell(int kind, int k) {
        int[] answers = answersOf(kind, k);
        return asked(kind, k).then("ticks(2)", "send(0, " + answers[1] + ")",
                "send(3, " + answers[0] + ")", "ticks(1)");
    }

    static Run closed(int kind, int k) {
        return atTheBell(kind, k).then("close(" + answersOf(kind, k)[1] + ")").due("count(3)", 0);
    }

    /** 20 questions in the book, one more asked, two ticks ahead of its bell. */
    static Run withFullBook() {
        Run run = withBoxes(2).then("road(1, 0, 0b101, 2)", "road(1, 1, 65535, 0)");
        for (int i = 0; i < 20; i++) {
            run.then("ask(0, 0, " + (i + 1) + ")", "send(0, " + i % 2 + ")", "ticks(1)");
            run.due("close(1)", i % 2);
        }
        return run.due("count(2)", 20).due("ask(0, 0, 22)", 0).then("send(0, 1)", "send(1, 1)");
    }

    /** The last tick but so many, all boxes made ahead of it; 500 calls are gone by then. */
    static Run nearTheLastTick(int left) {
        Run run = new Run();
        for (int i = 0; i < 499; i++) {
            run.then("ticks(200)");
        }
        return run.due("ticks(" + (200 - left) + ")", 100000 - left);
    }

    /** All but those with a full book and those near the last tick. */
    static Run[] all() {
        return new Run[] {new Run(), withBoxes(4), prepared(), withBook(), withMarks(),
            asked(0, 0), asked(1, 0), asked(2, 2), asked(2, 5), atTheBell(0, 0), atTheBell(1, 0),
            atTheBell(2, 3), closed(0, 0), closed(1, 0), closed(2, 4)};
    }

    /** Those in which a question is asked. */
    static Run[] allAsked() {
        return new Run[] {asked(0, 0), asked(1, 0), asked(2, 2), asked(2, 5), atTheBell(0, 0),
            atTheBell(1, 0), atTheBell(2, 3)};
    }

    /** Those with four boxes in which none is asked. */
    static Run[] allNotAsked() {
        return new Run[] {withBoxes(4), prepared(), withBook(), withMarks(), closed(0, 0),
            closed(1, 0), closed(2, 4)};
    }

    /** Those with four boxes. */
    static Run[] allWithBoxes() {
        Run[] all = all();
        return java.util.Arrays.copyOfRange(all, 1, all.length);
    }

    /** Two answers of a kind: for orders the things from 0 on, and from the last one on. */
    static int[] answersOf(int kind, int k) {
        if (kind != 2) {
            return kind == 0 ? new int[] {5, 6} : new int[] {70000, 40};
        }
        int[] up = new int[k];
        int[] down = new int[k];
        for (int i = 0; i < k; i++) {
            up[i] = i;
            down[i] = k - 1 - i;
        }
        return new int[] {Check.order(up), Check.order(down)};
    }
}
