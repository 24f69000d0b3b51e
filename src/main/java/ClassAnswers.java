/**
 * A class asked at once by little boxes. Their letters may be lost or late on the
 * roads to two bases; the last answer sent before the bell counts, once for each box.
 *
 * Every row that a call needs is made with the object: no call makes anything more.
 */
public final class ClassAnswers {
    public static final int BAD = -1, NO = -2, FULL = -3, NONE = -4;

    private static final int MOST_BOXES = 16;
    private static final int BASES = 2;
    private static final int LAST_TICK = 100000;
    private static final int MOST_TICKS_A_CALL = 200;
    private static final int LEAST_IN_TEAMS = 2;
    private static final int MOST_IN_TEAMS = 12;
    private static final int BAD_PAGE = -9;

    private static final int CHOICE = 0;
    private static final int NUMBER = 1;
    private static final int ORDER = 2;

    private final Box[] boxes = new Box[MOST_BOXES];
    private int boxCount;
    private int tick;
    private int hidden;
    private int least;
    private int triesMade;
    private final Question question = new Question();
    private final Post post = new Post();
    private final Ledger ledger = new Ledger();
    private final Lots lots = new Lots();
    private final Numbers numbers = new Numbers();
    private final Joiner joiner = new Joiner();

    public ClassAnswers() {
        for (int i = 0; i < MOST_BOXES; i++) {
            boxes[i] = new Box();
        }
    }

    // ---- boxes, roads, rules

    public int box() {
        if (question.asked) {
            return NO;
        }
        if (boxCount >= MOST_BOXES) {
            return FULL;
        }
        boxCount++;
        return boxCount - 1;
    }

    public int road(int box, int base, int bits, int delay) {
        if (!isBox(box) || !isBase(base) || !isWithin(bits, 0, Road.MOST_BITS)
                || !isWithin(delay, 0, Road.MOST_DELAY)) {
            return BAD;
        }
        boxes[box].roads[base].lay(bits, delay);
        return 0;
    }

    public int rule(int what, int v) {
        if (what == 0 && isWithin(v, 0, 1)) {
            int was = hidden;
            hidden = v;
            return was;
        }
        if (what == 1 && isWithin(v, 0, MOST_BOXES)) {
            int was = least;
            least = v;
            return was;
        }
        return BAD;
    }

    // ---- a question and its letters

    public int ask(int kind, int k, int bell) {
        if (!Question.isKind(kind, k) || bell <= tick || bell > LAST_TICK) {
            return BAD;
        }
        if (question.asked) {
            return NO;
        }
        question.begin(kind, k, bell);
        for (int i = 0; i < boxCount; i++) {
            boxes[i].forget();
        }
        return 0;
    }

    public int send(int box, int answer) {
        if (!isBox(box)) {
            return BAD;
        }
        if (!question.asked) {
            return NO;
        }
        if (!question.takes(answer)) {
            return BAD;
        }
        return boxes[box].write(answer, tick);
    }

    public int ticks(int n) {
        if (!isWithin(n, 1, MOST_TICKS_A_CALL)) {
            return BAD;
        }
        if (tick + n > LAST_TICK) {
            return FULL;
        }
        int end = tick + n;
        // Nothing can begin by itself once all is quiet, so the rest needs no steps.
        for (int i = 0; i < n && !isQuiet(); i++) {
            passTick();
        }
        tick = end;
        return tick;
    }

    private boolean isQuiet() {
        if (post.underWay > 0) {
            return false;
        }
        for (int i = 0; i < boxCount; i++) {
            if (isTrying(boxes[i])) {
                return false;
            }
        }
        return true;
    }

    private void passTick() {
        for (int i = 0; i < boxCount; i++) {
            if (isTrying(boxes[i])) {
                tryBothRoads(i);
            }
        }
        post.bringWhatIsDue(tick, question.bell, boxes);
        tick++;
    }

    /** A closed question's answers are tried no more: what the bases have stays as it is. */
    private boolean isTrying(Box box) {
        return question.asked && box.hasTriesLeft() && !box.isAcknowledged();
    }

    private void tryBothRoads(int number) {
        Box box = boxes[number];
        box.rounds++;
        for (int base = 0; base < BASES; base++) {
            Road road = box.roads[base];
            triesMade++;
            if (!road.losesNext()) {
                post.put(tick + road.delay, number, base, box);
            }
        }
    }

    public int base(int base, int box, int what) {
        if (!isBase(base) || !isBox(box) || !isWithin(what, 0, 3)) {
            return BAD;
        }
        Kept kept = boxes[box].kept[base];
        switch (what) {
            case 0:
                return kept.inTimeCount > 0 ? kept.inTimeAnswer : NONE;
            case 1:
                return kept.inTimeCount > 0 ? kept.inTimeCount : NONE;
            case 2:
                return kept.lateCount > 0 ? kept.lateCount : NONE;
            default:
                return kept.greatestCount() > 0 ? kept.greatestCount() : NONE;
        }
    }

    public int about(int box, int what) {
        if (!isBox(box) || !isWithin(what, 0, 3)) {
            return BAD;
        }
        Box told = boxes[box];
        switch (what) {
            case 0:
                return told.sends;
            case 1:
                return told.rounds * BASES;
            case 2:
                return told.isAcknowledged() ? 1 : 0;
            default:
                return told.countedAnswer();
        }
    }

    // ---- what is shown

    public int answers() {
        return isShown() ? countAnswered() : NO;
    }

    public int share(int choice) {
        if (!isWithin(choice, 0, Question.MOST_CHOICE)) {
            return BAD;
        }
        if (!areResultsShown(CHOICE)) {
            return NO;
        }
        int having = 0;
        for (int i = 0; i < boxCount; i++) {
            if (boxes[i].countedAnswer() == choice) {
                having++;
            }
        }
        return having;
    }

    public int number(int what) {
        if (!isWithin(what, 0, 2)) {
            return BAD;
        }
        if (!areResultsShown(NUMBER) || countAnswered() == 0) {
            return NO;
        }
        numbers.look(boxes, boxCount);
        if (what == 0) {
            return numbers.middle;
        }
        return what == 1 ? Integer.bitCount(numbers.oddBoxes) : numbers.oddBoxes;
    }

    public int order(int what) {
        if (!isWithin(what, 0, 1)) {
            return BAD;
        }
        if (!areResultsShown(ORDER) || countAnswered() == 0) {
            return NO;
        }
        joiner.join(boxes, boxCount, question.things);
        return what == 0 ? joiner.joined : joiner.turned;
    }

    private boolean isShown() {
        return question.asked && (hidden == 0 || tick >= question.bell);
    }

    private boolean areResultsShown(int kind) {
        return isShown() && question.kind == kind && countAnswered() >= least;
    }

    private int countAnswered() {
        int answered = 0;
        for (int i = 0; i < boxCount; i++) {
            if (boxes[i].countedAnswer() != NONE) {
                answered++;
            }
        }
        return answered;
    }

    // ---- the book

    public int close(int right) {
        if (!question.asked) {
            return NO;
        }
        if (!question.takes(right)) {
            return BAD;
        }
        if (tick < question.bell) {
            return NO;
        }
        if (ledger.isFull()) {
            return FULL;
        }
        question.asked = false;
        post.underWay = 0;
        return ledger.enter(boxes, boxCount, right);
    }

    public int book(int i, int box) {
        if (i < 0 || i >= ledger.size || !isBox(box)) {
            return BAD_PAGE;
        }
        return ledger.pages[i][box];
    }

    public int marks(int box) {
        return isBox(box) ? boxes[box].rightOnes : BAD;
    }

    public int teams(int boxes, int what) {
        if (!isWithin(what, 0, 1) || !canBeTeams(boxes)) {
            return BAD;
        }
        int told = evenestTeam(boxes);
        return what == 0 ? told : marksApart(told, boxes);
    }

    private boolean canBeTeams(int all) {
        int known = (1 << boxCount) - 1;
        return (all & ~known) == 0
                && isWithin(Integer.bitCount(all), LEAST_IN_TEAMS, MOST_IN_TEAMS);
    }

    private int evenestTeam(int all) {
        int lowest = Integer.lowestOneBit(all);
        int rest = all ^ lowest;
        int size = Integer.bitCount(all);
        int choices = 1 << (size - 1);
        int best = 0;
        int bestApart = Integer.MAX_VALUE;
        int part = 0;
        for (int i = 0; i < choices; i++) {
            int team = lowest | part;
            if (Math.abs(2 * Integer.bitCount(team) - size) <= 1) {
                int apart = marksApart(team, all);
                if (apart < bestApart) {
                    best = team;
                    bestApart = apart;
                }
            }
            // The next greater number whose bits all lie in rest: the least team comes first.
            part = (part - rest) & rest;
        }
        return best;
    }

    private int marksApart(int team, int all) {
        int apart = 0;
        for (int i = 0; i < boxCount; i++) {
            if ((team >> i & 1) == 1) {
                apart += boxes[i].rightOnes;
            } else if ((all >> i & 1) == 1) {
                apart -= boxes[i].rightOnes;
            }
        }
        return Math.abs(apart);
    }

    public int best() {
        return ledger.bestPage();
    }

    // ---- lots and counts

    public int seed(int v) {
        if (!isWithin(v, 1, Lots.MODULUS - 1)) {
            return BAD;
        }
        lots.begin(v);
        return boxCount;
    }

    public int draw() {
        return lots.next(boxCount);
    }

    public int count(int what) {
        switch (what) {
            case 0:
                return boxCount;
            case 1:
                return tick;
            case 2:
                return ledger.size;
            case 3:
                return question.asked ? 1 : 0;
            case 4:
                return post.underWay;
            case 5:
                return triesMade;
            default:
                return BAD;
        }
    }

    private boolean isBox(int box) {
        return box >= 0 && box < boxCount;
    }

    private static boolean isBase(int base) {
        return base >= 0 && base < BASES;
    }

    private static boolean isWithin(int v, int from, int to) {
        return v >= from && v <= to;
    }

    /** The number of the clear bit that has as many clear ones below it as place tells. */
    private static int clearBit(int bits, int place, int size) {
        int passed = 0;
        for (int i = 0; i < size; i++) {
            if ((bits >> i & 1) == 0) {
                if (passed == place) {
                    return i;
                }
                passed++;
            }
        }
        return 0;
    }

    // ---- the parts

    /** The way from a box to a base. */
    private static final class Road {
        static final int MOST_BITS = 65535;
        static final int MOST_DELAY = 9;

        private int bits;
        private int place;
        private int delay;

        void lay(int newBits, int newDelay) {
            bits = newBits;
            delay = newDelay;
            place = 0;
        }

        boolean losesNext() {
            boolean lost = (bits >> place & 1) == 1;
            place = (place + 1) & 15;
            return lost;
        }
    }

    /** What a base has of a box. Counts begin with 1, so 0 stands for nothing. */
    private static final class Kept {
        private int inTimeAnswer;
        private int inTimeCount;
        private int lateCount;

        void forget() {
            inTimeAnswer = 0;
            inTimeCount = 0;
            lateCount = 0;
        }

        void take(int answer, int count, boolean inTime) {
            if (!inTime) {
                lateCount = Math.max(lateCount, count);
            } else if (count > inTimeCount) {
                inTimeCount = count;
                inTimeAnswer = answer;
            }
        }

        /** All that comes is acknowledged, so this is the greatest count that was, too. */
        int greatestCount() {
            return Math.max(inTimeCount, lateCount);
        }
    }

    /** A box with its roads, its latest answer, and what the bases have of it. */
    private static final class Box {
        static final int MOST_ROUNDS = 5;

        private final Road[] roads = new Road[BASES];
        private final Kept[] kept = new Kept[BASES];
        private int sends;
        private int latest;
        private int sentIn;
        /** Both roads are always tried together, so one number stands for the tries by each. */
        private int rounds;
        private int rightOnes;

        Box() {
            for (int i = 0; i < BASES; i++) {
                roads[i] = new Road();
                kept[i] = new Kept();
            }
        }

        void forget() {
            sends = 0;
            rounds = 0;
            for (int i = 0; i < BASES; i++) {
                kept[i].forget();
            }
        }

        int write(int answer, int tick) {
            latest = answer;
            sentIn = tick;
            rounds = 0;
            sends++;
            return sends;
        }

        boolean hasTriesLeft() {
            return sends > 0 && rounds < MOST_ROUNDS;
        }

        boolean isAcknowledged() {
            return sends > 0 && Math.max(kept[0].greatestCount(), kept[1].greatestCount()) == sends;
        }

        /** The answer that counts for this box, or NONE. */
        int countedAnswer() {
            Kept newer = kept[0].inTimeCount >= kept[1].inTimeCount ? kept[0] : kept[1];
            return newer.inTimeCount > 0 ? newer.inTimeAnswer : NONE;
        }
    }

    /** The question that is asked, or the last one that was. */
    private static final class Question {
        static final int MOST_CHOICE = 7;
        static final int MOST_NUMBER = 100000;
        static final int LEAST_THINGS = 2;
        static final int MOST_THINGS = 5;

        private boolean asked;
        private int kind;
        private int things;
        private int bell;

        static boolean isKind(int kind, int k) {
            return kind == CHOICE || kind == NUMBER
                    || kind == ORDER && isWithin(k, LEAST_THINGS, MOST_THINGS);
        }

        void begin(int newKind, int k, int newBell) {
            asked = true;
            kind = newKind;
            things = newKind == ORDER ? k : 0;
            bell = newBell;
        }

        boolean takes(int answer) {
            switch (kind) {
                case CHOICE:
                    return isWithin(answer, 0, MOST_CHOICE);
                case NUMBER:
                    return isWithin(answer, 0, MOST_NUMBER);
                default:
                    return isOrder(answer);
            }
        }

        private boolean isOrder(int answer) {
            if (answer < 0 || answer >> 3 * things != 0) {
                return false;
            }
            int seen = 0;
            for (int i = 0; i < things; i++) {
                seen |= 1 << (answer >> 3 * i & 7);
            }
            // As many figures as things: if all things are seen, none is seen twice.
            return seen == (1 << things) - 1;
        }
    }

    /** The letters under way, in the order in which they were tried. */
    private static final class Post {
        /** A letter is under way in ten ticks at most, and each road takes one a tick. */
        static final int MOST_LETTERS = (Road.MOST_DELAY + 1) * MOST_BOXES * BASES;

        private final int[] dueIn = new int[MOST_LETTERS];
        private final int[] fromBox = new int[MOST_LETTERS];
        private final int[] toBase = new int[MOST_LETTERS];
        private final int[] answerIn = new int[MOST_LETTERS];
        private final int[] countIn = new int[MOST_LETTERS];
        private final int[] sentIn = new int[MOST_LETTERS];
        private int underWay;

        void put(int due, int from, int to, Box box) {
            if (underWay >= MOST_LETTERS) {
                return;
            }
            dueIn[underWay] = due;
            fromBox[underWay] = from;
            toBase[underWay] = to;
            answerIn[underWay] = box.latest;
            countIn[underWay] = box.sends;
            sentIn[underWay] = box.sentIn;
            underWay++;
        }

        void bringWhatIsDue(int tick, int bell, Box[] boxes) {
            int left = 0;
            for (int i = 0; i < underWay; i++) {
                if (dueIn[i] == tick) {
                    Kept kept = boxes[fromBox[i]].kept[toBase[i]];
                    kept.take(answerIn[i], countIn[i], sentIn[i] < bell);
                } else {
                    move(i, left);
                    left++;
                }
            }
            underWay = left;
        }

        private void move(int from, int to) {
            dueIn[to] = dueIn[from];
            fromBox[to] = fromBox[from];
            toBase[to] = toBase[from];
            answerIn[to] = answerIn[from];
            countIn[to] = countIn[from];
            sentIn[to] = sentIn[from];
        }
    }

    /** The middle of the numbers that were answered, and the odd ones among them. */
    private static final class Numbers {
        private final int[] row = new int[MOST_BOXES];
        private int filled;
        private int middle;
        private int oddBoxes;

        /** At least one box must have an answer. */
        void look(Box[] boxes, int boxCount) {
            filled = 0;
            for (int i = 0; i < boxCount; i++) {
                if (boxes[i].countedAnswer() != NONE) {
                    putInOrder(boxes[i].countedAnswer());
                }
            }
            middle = lesserMiddle();
            filled = 0;
            for (int i = 0; i < boxCount; i++) {
                if (boxes[i].countedAnswer() != NONE) {
                    putInOrder(off(boxes[i]));
                }
            }
            int bound = 3 * lesserMiddle();
            oddBoxes = 0;
            for (int i = 0; i < boxCount; i++) {
                if (boxes[i].countedAnswer() != NONE && off(boxes[i]) > bound) {
                    oddBoxes |= 1 << i;
                }
            }
        }

        private int off(Box box) {
            return Math.abs(box.countedAnswer() - middle);
        }

        private int lesserMiddle() {
            return filled > 0 ? row[(filled - 1) / 2] : 0;
        }

        private void putInOrder(int v) {
            if (filled >= MOST_BOXES) {
                return;
            }
            int place = filled;
            while (place > 0 && row[place - 1] > v) {
                row[place] = row[place - 1];
                place--;
            }
            row[place] = v;
            filled++;
        }
    }

    /** Joins orders into the one with the fewest turned pairs. */
    private static final class Joiner {
        /** So many orders of five things there are. */
        static final int MOST_ORDERS = 120;

        /** ahead[a][b]: how many answers have a ahead of b. */
        private final int[][] ahead = new int[Question.MOST_THINGS][Question.MOST_THINGS];
        private final int[] row = new int[Question.MOST_THINGS];
        private int joined;
        private int turned;

        void join(Box[] boxes, int boxCount, int things) {
            if (!isWithin(things, Question.LEAST_THINGS, Question.MOST_THINGS)) {
                return;
            }
            countPairs(boxes, boxCount, things);
            turned = Integer.MAX_VALUE;
            // From the lowest things on: of orders that are as good the first one stays.
            for (int i = 0; i < things; i++) {
                row[i] = i;
            }
            boolean isNew = true;
            for (int i = 0; isNew && i < MOST_ORDERS; i++) {
                int turnedNow = turnedPairs(things);
                if (turnedNow < turned) {
                    turned = turnedNow;
                    joined = asAnswer(things);
                }
                isNew = layOutNext(things);
            }
        }

        private void countPairs(Box[] boxes, int boxCount, int things) {
            for (int a = 0; a < things; a++) {
                for (int b = 0; b < things; b++) {
                    ahead[a][b] = 0;
                }
            }
            for (int i = 0; i < boxCount; i++) {
                if (boxes[i].countedAnswer() != NONE) {
                    addPairs(boxes[i].countedAnswer(), things);
                }
            }
        }

        private void addPairs(int answer, int things) {
            for (int i = 0; i < things; i++) {
                for (int j = i + 1; j < things; j++) {
                    int first = answer >> 3 * i & 7;
                    int second = answer >> 3 * j & 7;
                    if (first < things && second < things) {
                        ahead[first][second]++;
                    }
                }
            }
        }

        /** Lays out the order that comes next, by its things from the first on, if there is one. */
        private boolean layOutNext(int things) {
            int rising = things - 2;
            while (rising >= 0 && row[rising] > row[rising + 1]) {
                rising--;
            }
            if (rising < 0) {
                return false;
            }
            int above = things - 1;
            while (above > rising + 1 && row[above] < row[rising]) {
                above--;
            }
            swap(rising, above);
            // What stands behind falls, so turned about it is the lowest that it can be.
            int last = things - 1;
            for (int i = rising + 1; i < last; i++) {
                swap(i, last);
                last--;
            }
            return true;
        }

        private void swap(int i, int j) {
            int thing = row[i];
            row[i] = row[j];
            row[j] = thing;
        }

        private int turnedPairs(int things) {
            int sum = 0;
            for (int i = 0; i < things; i++) {
                for (int j = i + 1; j < things; j++) {
                    sum += ahead[row[j]][row[i]];
                }
            }
            return sum;
        }

        private int asAnswer(int things) {
            int answer = 0;
            for (int i = 0; i < things; i++) {
                answer |= row[i] << 3 * i;
            }
            return answer;
        }
    }

    /** The book of closed questions. */
    private static final class Ledger {
        static final int MOST_PAGES = 20;
        static final int RIGHT = 1;
        static final int WRONG = 0;
        static final int UNANSWERED = -1;

        private final int[][] pages = new int[MOST_PAGES][MOST_BOXES];
        private int size;

        boolean isFull() {
            return size >= MOST_PAGES;
        }

        /** Writes the next page and the marks; answers how many boxes were right. */
        int enter(Box[] boxes, int boxCount, int right) {
            if (isFull()) {
                return FULL;
            }
            int[] page = pages[size];
            int rightOnes = 0;
            for (int i = 0; i < MOST_BOXES; i++) {
                // Boxes that come later have their line too: they had no answer.
                page[i] = i < boxCount ? judge(boxes[i].countedAnswer(), right) : UNANSWERED;
                if (page[i] == RIGHT) {
                    boxes[i].rightOnes++;
                    rightOnes++;
                }
            }
            size++;
            return rightOnes;
        }

        private static int judge(int answer, int right) {
            if (answer == NONE) {
                return UNANSWERED;
            }
            return answer == right ? RIGHT : WRONG;
        }

        int bestPage() {
            int best = NONE;
            int bestLesser = 0;
            for (int i = 0; i < size; i++) {
                int lesser = Math.min(having(i, RIGHT), having(i, WRONG));
                if (lesser >= bestLesser) {
                    best = i;
                    bestLesser = lesser;
                }
            }
            return best;
        }

        private int having(int page, int mark) {
            int having = 0;
            for (int i = 0; i < MOST_BOXES; i++) {
                if (pages[page][i] == mark) {
                    having++;
                }
            }
            return having;
        }
    }

    /** Lots by a told seed. */
    private static final class Lots {
        static final int MODULUS = 2147483647;
        static final long FACTOR = 48271;

        /** 0: no seed was told. The seeds that can be told never lead to 0. */
        private long state;
        private int drawn;

        void begin(int told) {
            state = told;
            drawn = 0;
        }

        int next(int boxCount) {
            if (state == 0) {
                return NO;
            }
            int left = boxCount - Integer.bitCount(drawn);
            if (left <= 0) {
                return NONE;
            }
            state = state * FACTOR % MODULUS;
            int lot = clearBit(drawn, (int) (state % left), boxCount);
            drawn |= 1 << lot;
            return lot;
        }
    }
}
