/** Counts answers that are not as due; a test ends with exit code 1 if there was one. */
final class Check {
    private static final int MOST_PRINTED = 40;
    private static int made = 0;
    private static int wrong = 0;

    private Check() {
    }

    static void due(String call, long got, long want) {
        made++;
        if (got != want) {
            wrong++;
            if (wrong <= MOST_PRINTED) {
                System.out.println(call + " answered " + got + ", due is " + want);
            }
        }
    }

    static void holds(String what, boolean held) {
        due(what, held ? 1 : 0, 1);
    }

    static boolean hasFailed() {
        return wrong > 0;
    }

    static void end() {
        System.out.println(made + " checks, " + wrong + " wrong");
        if (wrong > 0 || made == 0) {
            System.exit(1);
        }
    }

    /** A new object with as many boxes, whose roads lose nothing and have no delay. */
    static ClassAnswers withBoxes(int n) {
        ClassAnswers x = new ClassAnswers();
        for (int i = 0; i < n; i++) {
            due("box()", x.box(), i);
        }
        return x;
    }

    /** Things, the first one first, as an answer to an order. */
    static int order(int... things) {
        int answer = 0;
        for (int i = 0; i < things.length; i++) {
            answer |= things[i] << (3 * i);
        }
        return answer;
    }

    /** Asks a choice of a box each, -1 for none, and closes it with what is right. */
    static int askAndClose(ClassAnswers x, int right, int... choices) {
        int bell = x.count(1) + 1;
        due("ask(0, 0, bell)", x.ask(0, 0, bell), 0);
        for (int i = 0; i < choices.length; i++) {
            if (choices[i] >= 0) {
                due("send(" + i + ", " + choices[i] + ")", x.send(i, choices[i]), 1);
            }
        }
        due("ticks(1)", x.ticks(1), bell);
        return x.close(right);
    }
}
