/** Promises 10 to 13: answers, share, number, order. */
public final class ShownTest {
    private static final int BAD = ClassAnswers.BAD;
    private static final int NO = ClassAnswers.NO;

    public static void main(String[] args) {
        promise10Answers();
        hiddenTillTheBell();
        leastBoxes();
        promise11Share();
        otherKinds();
        nothingAsked();
        promise12Number();
        promise12OddIsMoreThanThreeTimes();
        promise12ByBoxesNotByRank();
        promise12IsLookedAtAnew();
        sixteenBoxes();
        promise13Order();
        promise13OrderIsOfTheFewestTurnedPairs();
        promise13OfSeveralTheLower();
        Check.end();
    }

    /** A question of a kind to which each box has sent what is told, -1 for none. */
    private static ClassAnswers answered(int kind, int k, int... answers) {
        ClassAnswers x = Check.withBoxes(answers.length);
        Check.due("ask()", x.ask(kind, k, 100), 0);
        for (int i = 0; i < answers.length; i++) {
            if (answers[i] >= 0) {
                Check.due("send(" + i + ", " + answers[i] + ")", x.send(i, answers[i]), 1);
            }
        }
        x.ticks(1);
        return x;
    }

    private static void promise10Answers() {
        ClassAnswers x = answered(0, 0, 1, -1, 3);
        Check.due("answers()", x.answers(), 2);
        x.send(1, 5);
        Check.due("answers(): nothing has come yet", x.answers(), 2);
        x.send(0, 2);
        x.ticks(1);
        Check.due("answers(): each box once", x.answers(), 3);
        x.rule(1, 16);
        Check.due("answers() is told with LEAST too", x.answers(), 3);
        Check.due("share(2)", x.share(2), NO);
    }

    private static void hiddenTillTheBell() {
        int[] kinds = {0, 1, 2};
        for (int kind : kinds) {
            ClassAnswers x = answered(kind, 2, 1, 1, 1);
            x.rule(0, 1);
            x.ticks(98);
            Check.due("count(1)", x.count(1), 99);
            Check.due("answers() ahead of the bell", x.answers(), NO);
            Check.due("share(1) ahead of the bell", x.share(1), NO);
            Check.due("share(8) ahead of the bell", x.share(8), BAD);
            Check.due("number(0) ahead of the bell", x.number(0), NO);
            Check.due("order(0) ahead of the bell", x.order(0), NO);
            x.ticks(1);
            Check.due("answers() at the bell", x.answers(), 3);
            Check.due("share(1) at the bell", x.share(1), kind == 0 ? 3 : NO);
            Check.due("number(0) at the bell", x.number(0), kind == 1 ? 1 : NO);
            Check.due("order(0) at the bell", x.order(0), kind == 2 ? 1 : NO);
        }
        ClassAnswers x = answered(0, 0, 1);
        x.rule(0, 1);
        Check.due("answers()", x.answers(), NO);
        x.rule(0, 0);
        Check.due("answers()", x.answers(), 1);
    }

    private static void leastBoxes() {
        for (int kind = 0; kind <= 2; kind++) {
            ClassAnswers x = answered(kind, 2, 1, 1, -1, 1);
            for (int least = 0; least <= 16; least++) {
                x.rule(1, least);
                boolean shown = least <= 3;
                Check.due("answers()", x.answers(), 3);
                Check.due("share(1)", x.share(1), shown && kind == 0 ? 3 : NO);
                Check.due("share(2)", x.share(2), shown && kind == 0 ? 0 : NO);
                for (int what = 0; what <= 2; what++) {
                    Check.due("number()", x.number(what),
                            shown && kind == 1 ? (what == 0 ? 1 : 0) : NO);
                }
                for (int what = 0; what <= 1; what++) {
                    Check.due("order()", x.order(what),
                            shown && kind == 2 ? (what == 0 ? 1 : 0) : NO);
                }
            }
        }
    }

    private static void promise11Share() {
        ClassAnswers x = answered(0, 0, 0, 7, 7, -1, 3, 7, 0);
        int[] due = {2, 0, 0, 1, 0, 0, 0, 3};
        for (int choice = 0; choice <= 7; choice++) {
            Check.due("share(" + choice + ")", x.share(choice), due[choice]);
        }
        Check.due("share(-1)", x.share(-1), BAD);
        Check.due("share(-4)", x.share(-4), BAD);
        Check.due("share(8)", x.share(8), BAD);
        x.send(1, 2);
        x.ticks(1);
        Check.due("share(7): the newer answer alone", x.share(7), 2);
        Check.due("share(2)", x.share(2), 1);
        ClassAnswers none = answered(0, 0, -1, -1);
        Check.due("share(0) without an answer", none.share(0), 0);
    }

    private static void otherKinds() {
        ClassAnswers choice = answered(0, 0, 1);
        Check.due("number(0) of a choice", choice.number(0), NO);
        Check.due("order(0) of a choice", choice.order(0), NO);
        ClassAnswers number = answered(1, 0, 1);
        Check.due("share(1) of a number", number.share(1), NO);
        Check.due("order(0) of a number", number.order(0), NO);
        ClassAnswers order = answered(2, 2, 1);
        Check.due("share(1) of an order", order.share(1), NO);
        Check.due("number(0) of an order", order.number(0), NO);
    }

    private static void nothingAsked() {
        ClassAnswers x = answered(0, 0, 1, 1);
        x.ticks(99);
        Check.due("share(1)", x.share(1), 2);
        Check.due("close(1)", x.close(1), 2);
        Check.due("answers() behind close", x.answers(), NO);
        Check.due("share(1) behind close", x.share(1), NO);
        Check.due("share(9) behind close", x.share(9), BAD);
        Check.due("number(0) behind close", x.number(0), NO);
        Check.due("number(3) behind close", x.number(3), BAD);
        Check.due("order(0) behind close", x.order(0), NO);
        Check.due("order(2) behind close", x.order(2), BAD);
    }

    private static void numbers(int middle, int oddBoxes, int... answers) {
        ClassAnswers x = answered(1, 0, answers);
        Check.due("number(0)", x.number(0), middle);
        Check.due("number(1)", x.number(1), Integer.bitCount(oddBoxes));
        Check.due("number(2)", x.number(2), oddBoxes);
    }

    private static void promise12Number() {
        numbers(5, 0, 5);
        numbers(0, 0, 0, 0);
        numbers(4, 0b10, 4, 9);
        numbers(4, 0b01, 9, 4);
        numbers(5, 0, 9, 1, 5);
        numbers(2, 0, 4, 3, 2, 1);
        numbers(100000, 0b1000, 100000, 100000, 100000, 0);
        ClassAnswers x = answered(1, 0, 5, -1);
        Check.due("number(-1)", x.number(-1), BAD);
        Check.due("number(3)", x.number(3), BAD);
        ClassAnswers none = answered(1, 0, -1, -1);
        for (int what = 0; what <= 2; what++) {
            Check.due("number() without an answer", none.number(what), NO);
        }
        Check.due("number(3) without an answer", none.number(3), BAD);
    }

    private static void promise12OddIsMoreThanThreeTimes() {
        // Middle 10; offs 2, 1, 0, 2, and the last one's: their middle is 2.
        numbers(10, 0, 8, 9, 10, 12, 16);
        numbers(10, 0b10000, 8, 9, 10, 12, 17);
        // Four offs 0, 1, 2, 7: the lesser middle is 1.
        numbers(10, 0b1000, 10, 9, 12, 17);
        numbers(10, 0b1000, 10, 9, 12, 14);
        numbers(10, 0, 10, 9, 12, 13);
        // An odd one may lie below the middle.
        numbers(50, 0b00001, 0, 49, 50, 51, 52);
    }

    private static void promise12ByBoxesNotByRank() {
        numbers(11, 0b100, 11, -1, 90000, 10, 12, 11);
        numbers(11, 0b100001, 90000, 11, 10, 12, 11, 0, 11);
    }

    private static void promise12IsLookedAtAnew() {
        ClassAnswers x = answered(1, 0, 10, 11, 12, 500);
        Check.due("number(2)", x.number(2), 0b1000);
        x.send(3, 13);
        x.send(0, 700);
        x.ticks(1);
        Check.due("number(0)", x.number(0), 12);
        Check.due("number(2)", x.number(2), 0b0001);
        Check.due("number(1)", x.number(1), 1);
    }

    private static void sixteenBoxes() {
        int[] sent = new int[16];
        java.util.Arrays.fill(sent, 1);
        sent[15] = 7;
        ClassAnswers choice = answered(0, 0, sent);
        Check.due("answers()", choice.answers(), 16);
        Check.due("share(1)", choice.share(1), 15);
        Check.due("share(7)", choice.share(7), 1);
        choice.rule(1, 16);
        Check.due("share(7) with LEAST 16", choice.share(7), 1);
        Check.due("teams() of the last ones", choice.teams(0xC000, 0), 0x4000);
        numbers(1, 0x8000, sent);
        int[] orders = new int[16];
        java.util.Arrays.fill(orders, Check.order(4, 3, 2, 1, 0));
        orders[15] = Check.order(0, 1, 2, 3, 4);
        orders(5, orders[0], 10, orders);
    }

    private static void orders(int k, int joined, int turned, int... answers) {
        ClassAnswers x = answered(2, k, answers);
        Check.due("order(0)", x.order(0), joined);
        Check.due("order(1)", x.order(1), turned);
        Check.due("order(0) again", x.order(0), joined);
    }

    private static void promise13Order() {
        orders(2, Check.order(1, 0), 0, Check.order(1, 0));
        orders(5, Check.order(4, 2, 0, 1, 3), 0, Check.order(4, 2, 0, 1, 3), -1);
        orders(3, Check.order(2, 1, 0), 3, Check.order(2, 1, 0), Check.order(2, 1, 0),
                Check.order(0, 1, 2));
        ClassAnswers x = answered(2, 3, Check.order(2, 1, 0));
        Check.due("order(-1)", x.order(-1), BAD);
        Check.due("order(2)", x.order(2), BAD);
        ClassAnswers none = answered(2, 3, -1);
        Check.due("order(0) without an answer", none.order(0), NO);
        Check.due("order(1) without an answer", none.order(1), NO);
        Check.due("order(2) without an answer", none.order(2), BAD);
    }

    private static void promise13OrderIsOfTheFewestTurnedPairs() {
        // No box has the joined order: 0 leads twice, 1 is ahead of 2 twice, 3 is last twice.
        orders(4, Check.order(0, 1, 2, 3), 3, Check.order(1, 0, 2, 3), Check.order(0, 2, 1, 3),
                Check.order(0, 1, 3, 2));
        orders(5, Check.order(4, 3, 2, 1, 0), 10, Check.order(4, 3, 2, 1, 0),
                Check.order(4, 3, 2, 1, 0), Check.order(0, 1, 2, 3, 4));
    }

    private static void promise13OfSeveralTheLower() {
        orders(5, Check.order(0, 1, 2, 3, 4), 10, Check.order(4, 3, 2, 1, 0),
                Check.order(0, 1, 2, 3, 4));
        // A ring: 0 ahead of 1, 1 of 2, 2 of 0, each twice of three.
        orders(3, Check.order(0, 1, 2), 4, Check.order(1, 2, 0), Check.order(2, 0, 1),
                Check.order(0, 1, 2));
        // Lower from the first thing on, not as a number: 0 2 1 is the greater number of 2 0 1.
        orders(3, Check.order(0, 2, 1), 2, Check.order(2, 1, 0), Check.order(0, 2, 1));
    }
}
