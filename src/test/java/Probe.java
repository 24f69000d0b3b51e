import java.util.ArrayList;
import java.util.List;

/**
 * Reads all that can be read of a run's object, then goes on with it so that what can only
 * be seen later (roads and their places, letters, the bell, rules, lots) is seen too.
 */
final class Probe {
    private static final int ROUNDS = 10;
    /** One answer of each kind and number of things; none is of two of them. */
    private static final int[] ANSWERS = {18056, 1672, 136, 8, 7};

    private final Run run;
    private final int mostCalls;
    private final List<String> told = new ArrayList<>();
    private int boxes;
    private int answer;

    private Probe(Run run, int mostCalls) {
        this.run = run;
        this.mostCalls = mostCalls;
    }

    /** What was answered, call by call, till the run has had so many calls. */
    static List<String> of(Run run, int mostCalls) {
        Probe probe = new Probe(run, mostCalls);
        probe.counts();
        probe.readAll();
        probe.goOnWithAll();
        return probe.told;
    }

    /** The same without the reading, for runs whose calls are too few for both. */
    static List<String> ofGoingOn(Run run, int mostCalls) {
        Probe probe = new Probe(run, mostCalls);
        probe.boxes = run.boxes();
        probe.goOnWithAll();
        return probe.told;
    }

    private int see(String text) {
        if (run.calls() >= mostCalls) {
            return 0;
        }
        int got = run.make(text);
        told.add(text + " = " + got);
        return got;
    }

    private void readAll() {
        readBoxes();
        readShown();
        readBook();
    }

    private void goOnWithAll() {
        see("rule(0, 0)");
        see("rule(1, 0)");
        readShown();
        for (int i = 0; i < 3; i++) {
            see("draw()");
        }
        see("ask(0, 0, " + (see("count(1)") + 6) + ")");
        see("rule(0, 1)");
        for (int i = 0; i < 4; i++) {
            passTick();
        }
        readBoxes();
        goOn();
        see("close(" + answer + ")");
        counts();
        readBook();
        see("box()");
        see("box()");
        see("draw()");
        see("draw()");
        see("seed(5)");
        see("draw()");
    }

    private void counts() {
        for (int what = 0; what <= 5; what++) {
            int got = see("count(" + what + ")");
            boxes = what == 0 ? got : boxes;
        }
    }

    private void readBoxes() {
        for (int box = 0; box < boxes; box++) {
            for (int what = 0; what <= 3; what++) {
                see("about(" + box + ", " + what + ")");
                see("base(0, " + box + ", " + what + ")");
                see("base(1, " + box + ", " + what + ")");
            }
            see("marks(" + box + ")");
        }
    }

    private void readShown() {
        see("answers()");
        for (int choice = 0; choice <= 7; choice++) {
            see("share(" + choice + ")");
        }
        for (int what = 0; what <= 2; what++) {
            see("number(" + what + ")");
        }
        see("order(0)");
        see("order(1)");
    }

    private void readBook() {
        int pages = see("count(2)");
        for (int page = Math.max(0, pages - 4); page <= pages; page++) {
            for (int box = 0; box < boxes; box++) {
                see("book(" + page + ", " + box + ")");
            }
        }
        see("best()");
        int all = (1 << Math.min(12, boxes)) - 1;
        see("teams(" + all + ", 0)");
        see("teams(" + all + ", 1)");
    }

    /** With HIDDEN set, answers() tells where the bell is. */
    private void passTick() {
        see("ticks(1)");
        see("answers()");
        see("count(4)");
        see("count(5)");
    }

    /** Answers sent anew tell what each road does. */
    private void goOn() {
        for (int i = 0; i < ROUNDS; i++) {
            for (int box = 0; box < boxes; box++) {
                sendOne(box, i == 0);
            }
            passTick();
            for (int box = 0; box < boxes; box++) {
                see("base(0, " + box + ", 3)");
                see("base(1, " + box + ", 3)");
            }
        }
    }

    private void sendOne(int box, boolean find) {
        if (!find) {
            see("send(" + box + ", " + answer + ")");
            return;
        }
        for (int one : ANSWERS) {
            if (see("send(" + box + ", " + one + ")") > 0) {
                answer = one;
                return;
            }
        }
    }
}
