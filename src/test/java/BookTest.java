/** Promises 14 to 18: close, book, marks, teams, best. */
public final class BookTest {
    private static final int BAD = ClassAnswers.BAD;
    private static final int NO = ClassAnswers.NO;
    private static final int FULL = ClassAnswers.FULL;
    private static final int NONE = ClassAnswers.NONE;

    public static void main(String[] args) {
        promise14CloseRefusals();
        promise14CloseOfEachKind();
        promise14CloseTakesWhatHasCome();
        promise14CloseFull();
        promise15Book();
        promise16Marks();
        promise17TeamsBad();
        promise17Teams();
        promise17TeamsOfOddSize();
        promise17TwelveBoxes();
        promise18Best();
        promise18OnlyThoseWithAnAnswerAreCounted();
        Check.end();
    }

    private static void promise14CloseRefusals() {
        ClassAnswers x = Check.withBoxes(1);
        Check.due("close(-1): nothing is asked", x.close(-1), NO);
        x.ask(0, 0, 2);
        x.ticks(1);
        Check.due("close(8): BAD ahead of NO", x.close(8), BAD);
        Check.due("close(-1)", x.close(-1), BAD);
        Check.due("close(7) below the bell", x.close(7), NO);
        Check.due("count(3)", x.count(3), 1);
        Check.due("count(2)", x.count(2), 0);
        x.ticks(1);
        Check.due("close(8)", x.close(8), BAD);
        Check.due("close(7)", x.close(7), 0);
        Check.due("count(3)", x.count(3), 0);
        Check.due("count(2)", x.count(2), 1);
        Check.due("close(7) again", x.close(7), NO);
    }

    private static void promise14CloseOfEachKind() {
        ClassAnswers x = Check.withBoxes(3);
        x.ask(1, 0, 1);
        x.send(0, 100000);
        x.send(1, 99999);
        x.ticks(1);
        Check.due("close(100001)", x.close(100001), BAD);
        Check.due("close(100000)", x.close(100000), 1);
        x.ask(2, 3, 2);
        x.send(0, Check.order(2, 0, 1));
        x.send(1, Check.order(2, 0, 1));
        x.send(2, Check.order(0, 2, 1));
        x.ticks(1);
        Check.due("close(0)", x.close(0), BAD);
        Check.due("close(an order of 2)", x.close(Check.order(1, 0)), BAD);
        Check.due("close(an order of 4)", x.close(Check.order(0, 1, 2, 3)), BAD);
        Check.due("close(2 0 1)", x.close(Check.order(2, 0, 1)), 2);
        Check.due("marks(0)", x.marks(0), 2);
        Check.due("marks(1)", x.marks(1), 1);
        Check.due("marks(2)", x.marks(2), 0);
    }

    private static void promise14CloseTakesWhatHasCome() {
        ClassAnswers x = Check.withBoxes(2);
        x.road(1, 0, 0, 4);
        x.road(1, 1, 65535, 0);
        x.ask(0, 0, 3);
        x.send(0, 5);
        x.send(1, 5);
        x.ticks(3);
        x.send(0, 6);
        x.ticks(1);
        Check.due("count(4)", x.count(4), 4);
        Check.due("close(5): box 1's letters are late", x.close(5), 1);
        Check.due("book(0, 0)", x.book(0, 0), 1);
        Check.due("book(0, 1)", x.book(0, 1), -1);
        Check.due("count(4)", x.count(4), 0);
        x.ticks(10);
        Check.due("about(1, 3)", x.about(1, 3), NONE);
        Check.due("about(0, 3)", x.about(0, 3), 5);
        x.ask(0, 0, 30);
        x.ticks(10);
        Check.due("nothing of the last question comes", x.about(1, 3), NONE);
    }

    private static void promise14CloseFull() {
        ClassAnswers x = Check.withBoxes(2);
        for (int i = 0; i < 20; i++) {
            Check.due("close()", Check.askAndClose(x, i % 2, 0, 1), 1);
            Check.due("count(2)", x.count(2), i + 1);
        }
        Check.due("ask()", x.ask(0, 0, 22), 0);
        x.send(0, 3);
        x.ticks(1);
        Check.due("close(8): BAD ahead of FULL", x.close(8), BAD);
        Check.due("close(3) below the bell: NO ahead of FULL", x.close(3), NO);
        x.ticks(1);
        Check.due("close(3)", x.close(3), FULL);
        Check.due("marks(0)", x.marks(0), 10);
        Check.due("count(2)", x.count(2), 20);
        Check.due("count(3)", x.count(3), 1);
        Check.due("answers()", x.answers(), 1);
        Check.due("send(1, 3)", x.send(1, 3), 1);
    }

    private static void promise15Book() {
        ClassAnswers x = Check.withBoxes(3);
        Check.due("book(0, 0) of an empty one", x.book(0, 0), -9);
        Check.due("close(4)", Check.askAndClose(x, 4, 4, 3, -1), 1);
        Check.due("close(1)", Check.askAndClose(x, 1, -1, 1, 1), 2);
        x.box();
        int[][] due = {{1, 0, -1, -1}, {-1, 1, 1, -1}};
        for (int i = 0; i < 2; i++) {
            for (int box = 0; box < 4; box++) {
                Check.due("book(" + i + ", " + box + ")", x.book(i, box), due[i][box]);
            }
        }
        Check.due("book(-1, 0)", x.book(-1, 0), -9);
        Check.due("book(2, 0)", x.book(2, 0), -9);
        Check.due("book(0, -1)", x.book(0, -1), -9);
        Check.due("book(0, 4)", x.book(0, 4), -9);
        Check.due("book(20, 16)", x.book(20, 16), -9);
        Check.due("book(MAX, MAX)", x.book(Integer.MAX_VALUE, Integer.MAX_VALUE), -9);
        Check.due("book(MIN, MIN)", x.book(Integer.MIN_VALUE, Integer.MIN_VALUE), -9);
    }

    private static void promise16Marks() {
        ClassAnswers x = Check.withBoxes(2);
        Check.due("marks(0)", x.marks(0), 0);
        Check.due("marks(-1)", x.marks(-1), BAD);
        Check.due("marks(2)", x.marks(2), BAD);
        Check.askAndClose(x, 0, 0, 1);
        Check.askAndClose(x, 0, 0, -1);
        Check.askAndClose(x, 2, 2, 2);
        Check.due("marks(0)", x.marks(0), 3);
        Check.due("marks(1)", x.marks(1), 1);
        x.box();
        Check.due("marks(2)", x.marks(2), 0);
    }

    /** A new object whose boxes have the marks told, each of them 0 to 20. */
    private static ClassAnswers withMarks(int... marks) {
        ClassAnswers x = Check.withBoxes(marks.length);
        int most = 0;
        for (int mark : marks) {
            most = Math.max(most, mark);
        }
        for (int i = 0; i < most; i++) {
            int[] choices = new int[marks.length];
            for (int box = 0; box < marks.length; box++) {
                choices[box] = i < marks[box] ? 1 : 0;
            }
            Check.askAndClose(x, 1, choices);
        }
        for (int box = 0; box < marks.length; box++) {
            Check.due("marks(" + box + ")", x.marks(box), marks[box]);
        }
        return x;
    }

    private static void teams(ClassAnswers x, int boxes, int told, int apart) {
        Check.due("teams(" + boxes + ", 0)", x.teams(boxes, 0), told);
        Check.due("teams(" + boxes + ", 1)", x.teams(boxes, 1), apart);
    }

    private static void promise17TeamsBad() {
        ClassAnswers x = Check.withBoxes(14);
        int[] bad = {0, 1, 1 << 13, 1 << 14, 1 << 14 | 1, 3 << 15, -1, Integer.MIN_VALUE,
            Integer.MIN_VALUE | 3, (1 << 13) - 1, (1 << 14) - 1};
        for (int boxes : bad) {
            Check.due("teams(" + boxes + ", 0)", x.teams(boxes, 0), BAD);
            Check.due("teams(" + boxes + ", 1)", x.teams(boxes, 1), BAD);
        }
        Check.due("teams(3, 2)", x.teams(3, 2), BAD);
        Check.due("teams(3, -1)", x.teams(3, -1), BAD);
        teams(x, 3, 1, 0);
        teams(x, 0b11_1111_1111_1100, 0b1111_1100, 0);
        ClassAnswers all = Check.withBoxes(16);
        teams(all, 0xF000, 0x3000, 0);
        Check.due("teams() of a 17th box", all.teams(0x10001, 0), BAD);
    }

    private static void promise17Teams() {
        ClassAnswers x = withMarks(5, 4, 3, 2, 1, 0);
        teams(x, 0b000011, 0b000001, 1);
        teams(x, 0b001111, 0b001001, 0);
        // 5 + 2 + 1, 5 + 3 + 0, 5 + 2 + 0: all one off, the first is least as bits.
        teams(x, 0b111111, 0b011001, 1);
        teams(x, 0b111010, 0b100010, 1);
        teams(x, 0b110000, 0b010000, 1);
        ClassAnswers y = withMarks(1, 1, 1, 7);
        // Sizes come first: 7 against 3 would be more even than 8 against 2.
        teams(y, 0b1111, 0b0011, 6);
        ClassAnswers z = withMarks(2, 0, 1, 1);
        teams(z, 0b1111, 0b0011, 0);
    }

    /** The told team, found by looking at every set of bits there is. */
    private static int evenest(ClassAnswers x, int all) {
        int told = 0;
        int least = Integer.MAX_VALUE;
        for (int team = 1; team <= all; team++) {
            int other = all & ~team;
            boolean parts = (team & ~all) == 0 && (team & Integer.lowestOneBit(all)) != 0
                    && Math.abs(Integer.bitCount(team) - Integer.bitCount(other)) <= 1;
            if (parts) {
                int apart = Math.abs(sum(x, team) - sum(x, other));
                if (apart < least) {
                    least = apart;
                    told = team;
                }
            }
        }
        return told;
    }

    private static int sum(ClassAnswers x, int team) {
        int sum = 0;
        for (int box = 0; box < 16; box++) {
            if ((team >> box & 1) == 1) {
                sum += x.marks(box);
            }
        }
        return sum;
    }

    private static void promise17TeamsOfOddSize() {
        // Three boxes: one of them against two, or two against one.
        teams(withMarks(4, 2, 2), 0b111, 0b001, 0);
        teams(withMarks(2, 4, 2), 0b111, 0b101, 0);
        teams(withMarks(2, 2, 4), 0b111, 0b011, 0);
        teams(withMarks(0, 0, 0), 0b111, 0b001, 0);
        teams(withMarks(9, 0, 0, 0, 0), 0b11111, 0b00011, 9);
    }

    private static void promise17TwelveBoxes() {
        ClassAnswers x = withMarks(9, 1, 8, 2, 2, 7, 0, 5, 3, 3, 4, 6);
        int[] sets = {0xFFF, 0x7FF, 0xFFE, 0xABC, 0x0F0, 0xC03, 0x555};
        for (int all : sets) {
            int told = evenest(x, all);
            teams(x, all, told, Math.abs(sum(x, told) - sum(x, all & ~told)));
        }
    }

    private static void promise18Best() {
        ClassAnswers x = Check.withBoxes(5);
        Check.due("best() of an empty book", x.best(), NONE);
        Check.askAndClose(x, 1, 0, 0, 0, 0, 0);
        Check.due("best(): 0 of 5", x.best(), 0);
        Check.askAndClose(x, 1, 1, 1, 1, 1, 1);
        Check.due("best(): of several the latest", x.best(), 1);
        Check.askAndClose(x, 1, 1, 1, 1, 0, 0);
        Check.due("best(): 3 and 2", x.best(), 2);
        Check.askAndClose(x, 1, 1, 0, 0, 0, 0);
        Check.due("best(): 1 and 4 is less", x.best(), 2);
        Check.askAndClose(x, 1, 1, 1, 0, 0, 0);
        Check.due("best(): 2 and 3 is as good", x.best(), 4);
        Check.askAndClose(x, 1, 1, 1, 1, 1, 0);
        Check.due("best(): 4 and 1 is less", x.best(), 4);
    }

    private static void promise18OnlyThoseWithAnAnswerAreCounted() {
        ClassAnswers x = Check.withBoxes(6);
        Check.askAndClose(x, 1, 1, 0, -1, -1, -1, -1);
        Check.askAndClose(x, 1, 1, 1, -1, -1, -1, -1);
        Check.due("best(): 2 right, none not right", x.best(), 0);
        Check.askAndClose(x, 1, 1, 1, 0, 0, -1, -1);
        Check.askAndClose(x, 1, 1, -1, -1, -1, -1, -1);
        Check.askAndClose(x, 1, 0, -1, -1, -1, -1, -1);
        Check.askAndClose(x, 1, -1, -1, -1, -1, -1, -1);
        Check.due("best(): 2 and 2", x.best(), 2);
    }
}
