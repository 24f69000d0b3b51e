import java.util.ArrayList;
import java.util.List;

/**
 * A new object and the calls made on it, told as text ("send(0, 7)"), so that the same
 * object can be made again. No run goes beyond the 512 calls that are promised.
 */
final class Run {
    static final int MOST_CALLS = 512;

    private final ClassAnswers x = new ClassAnswers();
    /** All calls but the refused ones, which must have changed nothing. */
    private final List<String> history = new ArrayList<>();
    private int calls;
    private int boxes;

    Run(String... texts) {
        then(texts);
    }

    /** Makes calls whose answers are not looked at. */
    Run then(String... texts) {
        for (String text : texts) {
            answer(text);
        }
        return this;
    }

    int answer(String text) {
        history.add(text);
        return make(text);
    }

    Run due(String text, int want) {
        Check.due(text + where(), answer(text), want);
        return this;
    }

    /**
     * A call with the answer that is due and nothing changed behind it: an object that had
     * the call and one that had not answer alike to all that comes then.
     */
    Run refused(String text, int want) {
        Run without = again();
        Run with = again();
        Check.due(text + where(), with.make(text), want);
        alike(text, Probe.of(with, MOST_CALLS), Probe.of(without, MOST_CALLS - 1));
        if (with.calls == MOST_CALLS) {
            without = again();
            with = again();
            with.make(text);
            alike(text, Probe.ofGoingOn(with, MOST_CALLS),
                    Probe.ofGoingOn(without, MOST_CALLS - 1));
        }
        make(text);
        return this;
    }

    private void alike(String text, List<String> told, List<String> due) {
        Check.due("answers behind " + text + where(), told.size(), due.size());
        for (int i = 0; i < told.size() && i < due.size(); i++) {
            Check.holds("behind " + text + where() + ": " + told.get(i) + ", due is " + due.get(i),
                    told.get(i).equals(due.get(i)));
        }
    }

    /** A call that reads, whatever it answers, changes nothing. */
    Run reads(String text) {
        return refused(text, again().make(text));
    }

    /** A new object on which the same calls were made. */
    Run again() {
        return new Run(history.toArray(new String[0]));
    }

    int calls() {
        return calls;
    }

    /** How many boxes there are, by what was answered so far: no call is made for it. */
    int boxes() {
        return boxes;
    }

    int make(String text) {
        calls++;
        Check.holds(text + " is within the promised calls", calls <= MOST_CALLS);
        int got = call(x, text);
        boxes += text.equals("box()") && got >= 0 ? 1 : 0;
        return got;
    }

    private String where() {
        int from = Math.max(0, history.size() - 8);
        return " behind " + (from > 0 ? ".. " : "") + history.subList(from, history.size());
    }

    private static int call(ClassAnswers x, String text) {
        String name = text.substring(0, text.indexOf('('));
        int[] of = arguments(text);
        return switch (name + of.length) {
            case "box0" -> x.box();
            case "road4" -> x.road(of[0], of[1], of[2], of[3]);
            case "rule2" -> x.rule(of[0], of[1]);
            case "ask3" -> x.ask(of[0], of[1], of[2]);
            case "send2" -> x.send(of[0], of[1]);
            case "ticks1" -> x.ticks(of[0]);
            case "base3" -> x.base(of[0], of[1], of[2]);
            case "about2" -> x.about(of[0], of[1]);
            case "answers0" -> x.answers();
            case "share1" -> x.share(of[0]);
            case "number1" -> x.number(of[0]);
            case "order1" -> x.order(of[0]);
            case "close1" -> x.close(of[0]);
            case "book2" -> x.book(of[0], of[1]);
            case "marks1" -> x.marks(of[0]);
            case "teams2" -> x.teams(of[0], of[1]);
            case "best0" -> x.best();
            case "seed1" -> x.seed(of[0]);
            case "draw0" -> x.draw();
            case "count1" -> x.count(of[0]);
            default -> throw new IllegalArgumentException(text);
        };
    }

    private static int[] arguments(String text) {
        String inside = text.substring(text.indexOf('(') + 1, text.indexOf(')')).trim();
        if (inside.isEmpty()) {
            return new int[0];
        }
        String[] parts = inside.split("\\s*,\\s*");
        int[] values = new int[parts.length];
        for (int i = 0; i < parts.length; i++) {
            values[i] = value(parts[i]);
        }
        return values;
    }

    private static int value(String part) {
        return switch (part) {
            case "MIN" -> Integer.MIN_VALUE;
            case "MAX" -> Integer.MAX_VALUE;
            default -> part.startsWith("0b") ? Integer.parseInt(part.substring(2), 2)
                    : Integer.parseInt(part);
        };
    }
}
