/** Promises 5 to 9: ask, send, ticks, base, about. */
public final class LettersTest {
    private static final int BAD = ClassAnswers.BAD;
    private static final int NO = ClassAnswers.NO;
    private static final int FULL = ClassAnswers.FULL;
    private static final int NONE = ClassAnswers.NONE;

    public static void main(String[] args) {
        promise5AskBad();
        promise5AskNo();
        promise5AskBeginsAnew();
        promise6SendOrderOfRefusals();
        promise6SendChoiceAndNumber();
        promise6SendOrders();
        promise6SendCounts();
        promise7TicksEdges();
        promise7FiveTriesByEachRoad();
        promise7OneAcknowledgementEndsTheTries();
        promise7EitherBaseAcknowledges();
        promise7LettersKeepTheirBase();
        promise7OnlyTheLatestIsTried();
        promise7OlderLettersDoNotAcknowledge();
        promise7NoTriesBehindClose();
        promise7FullPost();
        promise8Base();
        promise8OlderLettersDoNotReplace();
        promise8SentJustAheadOfTheBell();
        promise9About();
        promise9AnswerOfBothBases();
        Check.end();
    }

    private static void promise5AskBad() {
        ClassAnswers x = new ClassAnswers();
        Check.due("ask(-1, 3, 5)", x.ask(-1, 3, 5), BAD);
        Check.due("ask(3, 3, 5)", x.ask(3, 3, 5), BAD);
        Check.due("ask(2, 1, 5)", x.ask(2, 1, 5), BAD);
        Check.due("ask(2, 6, 5)", x.ask(2, 6, 5), BAD);
        Check.due("ask(0, 0, 0)", x.ask(0, 0, 0), BAD);
        Check.due("ask(0, 0, -1)", x.ask(0, 0, -1), BAD);
        Check.due("ask(0, 0, 100001)", x.ask(0, 0, 100001), BAD);
        Check.due("count(3)", x.count(3), 0);
        x.ticks(10);
        Check.due("ask(0, 0, 10) at 10", x.ask(0, 0, 10), BAD);
        Check.due("ask(0, MIN, 100000)", x.ask(0, Integer.MIN_VALUE, 100000), 0);
        Check.due("count(3)", x.count(3), 1);
    }

    private static void promise5AskNo() {
        for (int kind = 0; kind <= 2; kind++) {
            ClassAnswers x = new ClassAnswers();
            Check.due("ask(kind, 5, 1)", x.ask(kind, 5, 1), 0);
            Check.due("ask() while asked", x.ask(0, 0, 7), NO);
            Check.due("ask(): BAD ahead of NO", x.ask(2, 9, 7), BAD);
        }
        ClassAnswers y = new ClassAnswers();
        Check.due("ask(1, 99, 1): k is not looked at", y.ask(1, 99, 1), 0);
    }

    private static void promise5AskBeginsAnew() {
        ClassAnswers x = Check.withBoxes(2);
        x.road(1, 0, 65535, 0);
        x.road(1, 1, 65535, 0);
        x.ask(0, 0, 1);
        x.send(0, 3);
        x.send(1, 4);
        x.ticks(1);
        x.send(0, 5);
        x.ticks(1);
        x.close(3);
        Check.due("what a base has stays", x.base(0, 0, 0), 3);
        Check.due("what came too late stays", x.base(0, 0, 2), 2);
        Check.due("about(0, 0) stays", x.about(0, 0), 2);
        Check.due("ask(0, 0, 9)", x.ask(0, 0, 9), 0);
        for (int box = 0; box < 2; box++) {
            for (int what = 0; what <= 3; what++) {
                Check.due("base() is empty anew", x.base(0, box, what), NONE);
                Check.due("base() is empty anew", x.base(1, box, what), NONE);
                Check.due("about() is empty anew", x.about(box, what), what == 3 ? NONE : 0);
            }
        }
        int tries = x.count(5);
        x.ticks(3);
        Check.due("the last question's answers are not tried", x.count(5), tries);
        Check.due("send(0, 1)", x.send(0, 1), 1);
    }

    private static void promise6SendOrderOfRefusals() {
        ClassAnswers x = Check.withBoxes(1);
        Check.due("send(1, -1): no such box", x.send(1, -1), BAD);
        Check.due("send(-1, 0): no such box", x.send(-1, 0), BAD);
        Check.due("send(0, -1): nothing is asked", x.send(0, -1), NO);
        x.ask(0, 0, 1);
        Check.due("send(0, -1)", x.send(0, -1), BAD);
        Check.due("about(0, 0)", x.about(0, 0), 0);
        x.ticks(1);
        x.close(0);
        Check.due("send(0, 0) behind close", x.send(0, 0), NO);
    }

    private static void promise6SendChoiceAndNumber() {
        ClassAnswers x = Check.withBoxes(1);
        x.ask(0, 0, 1);
        Check.due("choice 0", x.send(0, 0), 1);
        Check.due("choice 7", x.send(0, 7), 2);
        Check.due("choice 8", x.send(0, 8), BAD);
        Check.due("choice -1", x.send(0, -1), BAD);
        x.ticks(1);
        x.close(0);
        x.ask(1, 0, 2);
        Check.due("number 0", x.send(0, 0), 1);
        Check.due("number 100000", x.send(0, 100000), 2);
        Check.due("number 100001", x.send(0, 100001), BAD);
        Check.due("number -1", x.send(0, -1), BAD);
    }

    private static void promise6SendOrders() {
        for (int k = 2; k <= 5; k++) {
            allRows(k);
            lowAnswers(k);
            strayBits(k);
        }
    }

    private static ClassAnswers askedForOrder(int k) {
        ClassAnswers x = Check.withBoxes(1);
        Check.due("ask(2, " + k + ", 1)", x.ask(2, k, 1), 0);
        return x;
    }

    private static void allRows(int k) {
        ClassAnswers x = askedForOrder(k);
        int taken = 0;
        for (int answer = 0; answer < 1 << (3 * k); answer++) {
            if (isRow(answer, k)) {
                taken++;
                Check.due("send(0, " + answer + ") of " + k, x.send(0, answer), taken);
            }
        }
        Check.due("orders of " + k, taken, new int[] {2, 6, 24, 120}[k - 2]);
    }

    private static void lowAnswers(int k) {
        ClassAnswers x = askedForOrder(k);
        int taken = 0;
        for (int answer = -100; answer < 400; answer++) {
            boolean row = isRow(answer, k);
            taken += row ? 1 : 0;
            Check.due("send(0, " + answer + ") of " + k, x.send(0, answer), row ? taken : BAD);
        }
    }

    private static void strayBits(int k) {
        ClassAnswers x = askedForOrder(k);
        int row = 0;
        for (int i = 0; i < k; i++) {
            row |= i << (3 * i);
        }
        Check.due("send(0, MIN)", x.send(0, Integer.MIN_VALUE), BAD);
        Check.due("send(0, MAX)", x.send(0, Integer.MAX_VALUE), BAD);
        for (int bit = 3 * k; bit < 32; bit++) {
            Check.due("send() with bit " + bit, x.send(0, row | 1 << bit), BAD);
        }
        Check.due("a thing too high", x.send(0, row + (1 << (3 * (k - 1)))), BAD);
        Check.due("a thing twice", x.send(0, row - (1 << (3 * (k - 1)))), BAD);
        Check.due("send(0, row)", x.send(0, row), 1);
    }

    private static boolean isRow(int answer, int k) {
        if (answer < 0) {
            return false;
        }
        StringBuilder figures = new StringBuilder(Integer.toOctalString(answer)).reverse();
        while (figures.length() < k) {
            figures.append('0');
        }
        if (figures.length() != k) {
            return false;
        }
        for (int i = 0; i < k; i++) {
            if (figures.indexOf(String.valueOf(i)) < 0) {
                return false;
            }
        }
        return true;
    }

    private static void promise6SendCounts() {
        ClassAnswers x = Check.withBoxes(2);
        x.ask(0, 0, 5);
        Check.due("send(0, 1)", x.send(0, 1), 1);
        Check.due("send(0, 1) again", x.send(0, 1), 2);
        Check.due("send(1, 1): its own count", x.send(1, 1), 1);
        x.ticks(9);
        Check.due("send(0, 1) behind the bell", x.send(0, 1), 3);
    }

    private static void promise7TicksEdges() {
        ClassAnswers x = new ClassAnswers();
        Check.due("ticks(0)", x.ticks(0), BAD);
        Check.due("ticks(-1)", x.ticks(-1), BAD);
        Check.due("ticks(201)", x.ticks(201), BAD);
        Check.due("ticks(MAX)", x.ticks(Integer.MAX_VALUE), BAD);
        Check.due("ticks(1)", x.ticks(1), 1);
        for (int i = 1; i < 500; i++) {
            Check.due("ticks(200)", x.ticks(200), 1 + 200 * i);
        }
        Check.due("ticks(200) beyond", x.ticks(200), FULL);
        Check.due("ticks(201): BAD ahead of FULL", x.ticks(201), BAD);
        Check.due("count(1)", x.count(1), 99801);
        Check.due("ticks(199)", x.ticks(199), 100000);
        Check.due("ticks(1)", x.ticks(1), FULL);
        Check.due("ask(0, 0, 100000) at 100000", x.ask(0, 0, 100000), BAD);
    }

    private static void promise7FiveTriesByEachRoad() {
        ClassAnswers x = Check.withBoxes(1);
        x.road(0, 0, 65535, 0);
        x.road(0, 1, 0b11111, 0);
        x.ask(0, 0, 100);
        x.send(0, 2);
        for (int i = 1; i <= 5; i++) {
            x.ticks(1);
            Check.due("about(0, 1)", x.about(0, 1), 2 * i);
        }
        x.ticks(20);
        Check.due("about(0, 1): five by each", x.about(0, 1), 10);
        Check.due("about(0, 3)", x.about(0, 3), NONE);
        Check.due("send(0, 3)", x.send(0, 3), 2);
        Check.due("a new answer has no tries yet", x.about(0, 1), 0);
        x.ticks(1);
        Check.due("the road went on by one a try", x.about(0, 3), 3);
        Check.due("count(5)", x.count(5), 12);
    }

    private static void promise7OneAcknowledgementEndsTheTries() {
        ClassAnswers x = Check.withBoxes(2);
        x.road(0, 1, 65535, 0);
        x.road(1, 0, 0, 2);
        x.road(1, 1, 65535, 9);
        x.ask(0, 0, 100);
        x.send(0, 2);
        x.send(1, 3);
        x.ticks(5);
        Check.due("box 0 tried once by each", x.about(0, 1), 2);
        Check.due("box 1 tried in ticks 0, 1, 2", x.about(1, 1), 6);
        Check.due("count(4)", x.count(4), 0);
        Check.due("count(5)", x.count(5), 8);
        Check.due("base 1 has nothing", x.base(1, 1, 3), NONE);
    }

    private static void promise7EitherBaseAcknowledges() {
        for (int base = 0; base < 2; base++) {
            ClassAnswers x = Check.withBoxes(1);
            x.road(0, 1 - base, 65535, 0);
            x.ask(0, 0, 100);
            x.send(0, 2);
            x.ticks(1);
            Check.due("about(0, 2)", x.about(0, 2), 1);
            x.ticks(5);
            Check.due("about(0, 1)", x.about(0, 1), 2);
            Check.due("the base that got it", x.base(base, 0, 3), 1);
            Check.due("the other base", x.base(1 - base, 0, 3), NONE);
        }
    }

    /** Of letters of both bases and several boxes some come while others stay under way. */
    private static void promise7LettersKeepTheirBase() {
        ClassAnswers x = Check.withBoxes(3);
        x.road(0, 0, 0, 0);
        x.road(0, 1, 0, 5);
        x.road(1, 0, 65534, 4);
        x.road(1, 1, 65535, 0);
        x.road(2, 0, 65535, 0);
        x.road(2, 1, 65534, 3);
        x.ask(0, 0, 100);
        for (int box = 0; box < 3; box++) {
            x.send(box, box + 5);
        }
        x.ticks(1);
        int[] left = {3, 3, 3, 2, 1, 0};
        for (int tick = 0; tick < 6; tick++) {
            Check.due("count(4) behind tick " + tick, x.count(4), left[tick]);
            Check.due("base(0, 0, 0)", x.base(0, 0, 0), 5);
            Check.due("base(1, 0, 0)", x.base(1, 0, 0), tick >= 5 ? 5 : NONE);
            Check.due("base(0, 1, 0)", x.base(0, 1, 0), tick >= 4 ? 6 : NONE);
            Check.due("base(1, 1, 0)", x.base(1, 1, 0), NONE);
            Check.due("base(0, 2, 0)", x.base(0, 2, 0), NONE);
            Check.due("base(1, 2, 0)", x.base(1, 2, 0), tick >= 3 ? 7 : NONE);
            x.ticks(1);
        }
    }

    private static void promise7OnlyTheLatestIsTried() {
        ClassAnswers x = Check.withBoxes(1);
        x.ask(0, 0, 100);
        x.send(0, 2);
        x.send(0, 6);
        x.ticks(1);
        Check.due("about(0, 3)", x.about(0, 3), 6);
        Check.due("base(0, 0, 1)", x.base(0, 0, 1), 2);
        Check.due("count(5)", x.count(5), 2);
    }

    private static void promise7OlderLettersDoNotAcknowledge() {
        ClassAnswers x = Check.withBoxes(1);
        x.road(0, 0, 0, 3);
        x.road(0, 1, 65535, 0);
        x.ask(0, 0, 100);
        x.send(0, 2);
        x.ticks(1);
        x.road(0, 0, 65535, 0);
        x.send(0, 6);
        x.ticks(3);
        Check.due("the older one has come", x.base(0, 0, 3), 1);
        Check.due("the latest is not acknowledged", x.about(0, 2), 0);
        Check.due("about(0, 3)", x.about(0, 3), 2);
        Check.due("about(0, 1)", x.about(0, 1), 6);
        x.ticks(9);
        Check.due("about(0, 1)", x.about(0, 1), 10);
    }

    private static void promise7NoTriesBehindClose() {
        ClassAnswers x = Check.withBoxes(1);
        x.road(0, 0, 0, 5);
        x.road(0, 1, 0, 9);
        x.ask(0, 0, 1);
        x.send(0, 2);
        x.ticks(1);
        Check.due("count(4)", x.count(4), 2);
        Check.due("close(2)", x.close(2), 0);
        Check.due("letters under way are gone", x.count(4), 0);
        x.ticks(20);
        Check.due("count(5)", x.count(5), 2);
        Check.due("about(0, 3)", x.about(0, 3), NONE);
        Check.due("about(0, 0)", x.about(0, 0), 1);
        Check.due("about(0, 1)", x.about(0, 1), 2);
        Check.due("about(0, 2)", x.about(0, 2), 0);
        Check.due("book(0, 0)", x.book(0, 0), -1);
    }

    /** As many letters under way as there can be: 32 roads with a delay of 9. */
    private static void promise7FullPost() {
        ClassAnswers x = Check.withBoxes(16);
        for (int box = 0; box < 16; box++) {
            x.road(box, 0, 0, 9);
            x.road(box, 1, 0, 9);
        }
        x.ask(1, 0, 1000);
        for (int round = 0; round < 5; round++) {
            for (int box = 0; box < 16; box++) {
                Check.due("send", x.send(box, 100 * round + box), round + 1);
            }
            x.ticks(4);
            Check.due("count(4)", x.count(4), Math.min(9, 4 * round + 4) * 32);
        }
        x.ticks(20);
        Check.due("count(4)", x.count(4), 0);
        Check.due("count(5)", x.count(5), 32 * 21);
        for (int box = 0; box < 16; box++) {
            Check.due("about(box, 3)", x.about(box, 3), 400 + box);
        }
    }

    private static void promise8Base() {
        ClassAnswers x = Check.withBoxes(2);
        Check.due("base(-1, 0, 0)", x.base(-1, 0, 0), BAD);
        Check.due("base(2, 0, 0)", x.base(2, 0, 0), BAD);
        Check.due("base(0, -1, 0)", x.base(0, -1, 0), BAD);
        Check.due("base(0, 2, 0)", x.base(0, 2, 0), BAD);
        Check.due("base(0, 0, -1)", x.base(0, 0, -1), BAD);
        Check.due("base(0, 0, 4)", x.base(0, 0, 4), BAD);
        Check.due("base(0, 0, 0)", x.base(0, 0, 0), NONE);
        x.road(1, 1, 0b10, 0);
        x.ask(0, 0, 2);
        x.send(1, 0);
        x.ticks(1);
        x.send(1, 7);
        x.ticks(1);
        x.send(1, 4);
        x.ticks(1);
        x.send(1, 5);
        x.ticks(1);
        int[][] due = {{7, 2, 4, 4}, {0, 1, 4, 4}};
        for (int base = 0; base < 2; base++) {
            for (int what = 0; what <= 3; what++) {
                Check.due("base(" + base + ", 1, " + what + ")", x.base(base, 1, what),
                        due[base][what]);
                Check.due("base(" + base + ", 0, " + what + ")", x.base(base, 0, what), NONE);
            }
        }
    }

    private static void promise8OlderLettersDoNotReplace() {
        ClassAnswers x = Check.withBoxes(1);
        x.road(0, 1, 65535, 0);
        x.road(0, 0, 0, 4);
        x.ask(0, 0, 2);
        x.send(0, 1);
        x.ticks(1);
        x.road(0, 0, 0, 0);
        x.send(0, 2);
        x.ticks(1);
        x.road(0, 0, 0, 4);
        x.send(0, 3);
        x.ticks(1);
        x.road(0, 0, 0, 0);
        x.send(0, 4);
        x.ticks(10);
        Check.due("count(4)", x.count(4), 0);
        Check.due("base(0, 0, 0)", x.base(0, 0, 0), 2);
        Check.due("base(0, 0, 1)", x.base(0, 0, 1), 2);
        Check.due("base(0, 0, 2)", x.base(0, 0, 2), 4);
        Check.due("base(0, 0, 3)", x.base(0, 0, 3), 4);
    }

    private static void promise8SentJustAheadOfTheBell() {
        ClassAnswers x = Check.withBoxes(2);
        x.road(0, 0, 0b111, 9);
        x.ask(1, 0, 10);
        x.ticks(9);
        x.send(0, 77);
        x.road(0, 1, 65535, 0);
        x.ticks(1);
        x.send(1, 88);
        x.ticks(30);
        Check.due("sent in tick 9, tried till 12, come in 21", x.about(0, 3), 77);
        Check.due("sent in tick 10", x.about(1, 3), NONE);
        Check.due("base(0, 1, 0)", x.base(0, 1, 0), NONE);
        Check.due("base(0, 1, 1)", x.base(0, 1, 1), NONE);
        Check.due("base(0, 1, 2)", x.base(0, 1, 2), 1);
        Check.due("base(0, 1, 3)", x.base(0, 1, 3), 1);
        Check.due("it is acknowledged all the same", x.about(1, 2), 1);
    }

    private static void promise9About() {
        ClassAnswers x = Check.withBoxes(1);
        Check.due("about(-1, 0)", x.about(-1, 0), BAD);
        Check.due("about(1, 0)", x.about(1, 0), BAD);
        Check.due("about(0, -1)", x.about(0, -1), BAD);
        Check.due("about(0, 4)", x.about(0, 4), BAD);
        x.ask(0, 0, 9);
        Check.due("about(0, 2): it sent none", x.about(0, 2), 0);
        x.send(0, 6);
        Check.due("about(0, 0)", x.about(0, 0), 1);
        Check.due("about(0, 1)", x.about(0, 1), 0);
        Check.due("about(0, 2)", x.about(0, 2), 0);
        Check.due("about(0, 3)", x.about(0, 3), NONE);
        x.ticks(1);
        Check.due("about(0, 0)", x.about(0, 0), 1);
        Check.due("about(0, 1)", x.about(0, 1), 2);
        Check.due("about(0, 2)", x.about(0, 2), 1);
        Check.due("about(0, 3)", x.about(0, 3), 6);
        x.send(0, 1);
        Check.due("about(0, 2) of the new one", x.about(0, 2), 0);
        Check.due("about(0, 3) is still the old one", x.about(0, 3), 6);
        x.rule(0, 1);
        x.rule(1, 16);
        Check.due("about(0, 3) is told though hidden", x.about(0, 3), 6);
    }

    private static void promise9AnswerOfBothBases() {
        for (int newer = 0; newer < 2; newer++) {
            ClassAnswers x = Check.withBoxes(1);
            x.road(0, 1 - newer, 0b10, 0);
            x.road(0, newer, 0b01, 0);
            x.ask(0, 0, 9);
            x.send(0, 1);
            x.ticks(1);
            x.send(0, 2);
            x.ticks(1);
            Check.due("the older one", x.base(1 - newer, 0, 0), 1);
            Check.due("the newer one", x.base(newer, 0, 0), 2);
            Check.due("about(0, 3)", x.about(0, 3), 2);
            Check.due("answers()", x.answers(), 1);
        }
    }
}
