import java.util.Random;

/**
 * Runs of 512 calls by told seeds, each call answered by the class and by the model:
 * boxes, roads and rules of all sorts, right arguments mostly and wrong ones among them.
 */
public final class RandomRunsTest {
    private static final int RUNS = 600;
    private static final int CALLS = 512;

    private final Random random;
    private final ClassAnswers x = new ClassAnswers();
    private final Model model = new Model();
    /** What the run so far has asked for: it only steers which arguments are likely. */
    private int boxes;
    private int kind;
    private int k = 2;
    private int bell;
    private int spread = 10;

    private RandomRunsTest(long seed) {
        random = new Random(seed);
    }

    public static void main(String[] args) {
        for (int run = 0; run < RUNS && !Check.hasFailed(); run++) {
            new RandomRunsTest(run).play(run);
        }
        Check.end();
    }

    private void play(int run) {
        int begin = 1 + random.nextInt(16);
        for (int i = 0; i < begin; i++) {
            call(run, i, 0);
        }
        for (int i = begin; i < CALLS && !Check.hasFailed(); i++) {
            call(run, i, random.nextInt(100));
        }
    }

    private int pick(int from, int to) {
        int way = random.nextInt(40);
        if (way == 0) return from - 1;
        if (way == 1) return to + 1;
        if (way == 2) return random.nextInt(3) == 0 ? random.nextInt() : from;
        return from + random.nextInt(to - from + 1);
    }

    private int anyBox() {
        return pick(0, Math.max(0, boxes - 1));
    }

    private int anyAnswer() {
        if (random.nextInt(30) == 0) return random.nextInt(40000) - 5;
        if (kind == 0) return pick(0, spread < 20 ? 2 : 7);
        if (kind == 1) return pick(0, random.nextInt(6) == 0 ? 100000 : spread);
        int[] row = new int[k];
        for (int i = 0; i < k; i++) {
            int j = random.nextInt(i + 1);
            row[i] = row[j];
            row[j] = i;
        }
        return Check.order(row);
    }

    private void due(int run, int call, String text, int got, int want) {
        Check.due("run " + run + " call " + call + ": " + text, got, want);
    }

    private void call(int run, int i, int way) {
        if (way < 2) {
            int got = x.box();
            due(run, i, "box()", got, model.box());
            boxes = Math.max(boxes, got + 1);
        } else if (way < 10) {
            callRoadOrRule(run, i);
        } else if (way < 17) {
            callAsk(run, i);
        } else if (way < 42) {
            int box = anyBox();
            int answer = anyAnswer();
            due(run, i, "send(" + box + ", " + answer + ")", x.send(box, answer),
                    model.send(box, answer));
        } else if (way < 52) {
            int n = random.nextInt(8) == 0 ? pick(1, 200) : pick(1, 4);
            due(run, i, "ticks(" + n + ")", x.ticks(n), model.ticks(n));
        } else if (way < 57) {
            int right = anyAnswer();
            due(run, i, "close(" + right + ")", x.close(right), model.close(right));
        } else if (way < 66) {
            callBaseOrAbout(run, i);
        } else if (way < 82) {
            callShown(run, i);
        } else {
            callBookOrLots(run, i);
        }
    }

    private void callRoadOrRule(int run, int i) {
        if (random.nextInt(4) == 0) {
            int what = pick(0, 1);
            int v = pick(0, what == 0 ? 1 : random.nextInt(3) == 0 ? 16 : 3);
            due(run, i, "rule(" + what + ", " + v + ")", x.rule(what, v), model.rule(what, v));
            return;
        }
        int box = anyBox();
        int base = pick(0, 1);
        int bits = random.nextInt(3) == 0 ? pick(0, 65535) : random.nextInt(65536)
                & random.nextInt(65536);
        int delay = pick(0, random.nextBoolean() ? 9 : 3);
        due(run, i, "road(" + box + ", " + base + ", " + bits + ", " + delay + ")",
                x.road(box, base, bits, delay), model.road(box, base, bits, delay));
    }

    private void callAsk(int run, int i) {
        int newKind = pick(0, 2);
        int newK = newKind == 2 ? pick(2, 5) : pick(-5, 9);
        int newBell = model.count(1) + pick(1, random.nextBoolean() ? 3 : 12);
        int got = x.ask(newKind, newK, newBell);
        due(run, i, "ask(" + newKind + ", " + newK + ", " + newBell + ")", got,
                model.ask(newKind, newK, newBell));
        if (got == 0) {
            kind = newKind;
            k = newK;
            bell = newBell;
            spread = random.nextBoolean() ? 10 : 1000;
        }
    }

    private void callBaseOrAbout(int run, int i) {
        int box = anyBox();
        int what = pick(0, 3);
        if (random.nextBoolean()) {
            int base = pick(0, 1);
            due(run, i, "base(" + base + ", " + box + ", " + what + ")", x.base(base, box, what),
                    model.base(base, box, what));
        } else {
            due(run, i, "about(" + box + ", " + what + ")", x.about(box, what),
                    model.about(box, what));
        }
    }

    private void callShown(int run, int i) {
        int way = random.nextInt(8);
        if (way == 0) {
            due(run, i, "answers() at bell " + bell, x.answers(), model.answers());
        } else if (way == 1 || way > 4 && kind == 0) {
            int choice = pick(0, 7);
            due(run, i, "share(" + choice + ")", x.share(choice), model.share(choice));
        } else if (way == 2 || way > 4 && kind == 1) {
            int what = pick(0, 2);
            due(run, i, "number(" + what + ")", x.number(what), model.number(what));
        } else {
            int what = pick(0, 1);
            due(run, i, "order(" + what + ")", x.order(what), model.order(what));
        }
    }

    private void callBookOrLots(int run, int i) {
        int way = random.nextInt(18);
        int box = anyBox();
        if (way < 3) {
            int page = pick(0, Math.max(0, model.count(2) - 1));
            due(run, i, "book(" + page + ", " + box + ")", x.book(page, box),
                    model.book(page, box));
        } else if (way < 5) {
            due(run, i, "marks(" + box + ")", x.marks(box), model.marks(box));
        } else if (way < 9) {
            int set = random.nextInt(1 << Math.max(1, boxes))
                    & (random.nextBoolean() ? -1 : random.nextInt());
            set = random.nextInt(20) == 0 ? random.nextInt() : set;
            int what = pick(0, 1);
            due(run, i, "teams(" + set + ", " + what + ")", x.teams(set, what),
                    model.teams(set, what));
        } else if (way < 11) {
            due(run, i, "best()", x.best(), model.best());
        } else if (way < 12) {
            int v = pick(1, 2147483645);
            due(run, i, "seed(" + v + ")", x.seed(v), model.seed(v));
        } else if (way < 15) {
            due(run, i, "draw()", x.draw(), model.draw());
        } else {
            int what = pick(0, 5);
            due(run, i, "count(" + what + ")", x.count(what), model.count(what));
        }
    }
}
