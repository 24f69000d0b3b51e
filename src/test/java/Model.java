import java.util.ArrayList;
import java.util.List;
import java.util.TreeMap;

/**
 * The document once more, as slow and plain as can be, to hold the class against:
 * bases keep every letter that came, and each answer is worked out anew from them.
 */
final class Model {
    private static final int BAD = -1, NO = -2, FULL = -3, NONE = -4;

    private static final class Letter {
        int due, box, base, answer, count, sent;
    }

    private static final class Box {
        int[] bits = new int[2], delay = new int[2], place = new int[2], tries = new int[2];
        int count, answer, sent;
        boolean acknowledged;
    }

    private final List<Box> boxes = new ArrayList<>();
    private final List<Letter> underWay = new ArrayList<>();
    private final List<Letter> come = new ArrayList<>();
    private final List<TreeMap<Integer, Boolean>> book = new ArrayList<>();
    private final List<Integer> drawn = new ArrayList<>();
    private int tick, hidden, least, kind, k, bell, tries;
    private boolean asked, seeded;
    private long seed;

    int box() {
        if (asked) return NO;
        if (boxes.size() == 16) return FULL;
        boxes.add(new Box());
        return boxes.size() - 1;
    }

    int road(int box, int base, int bits, int delay) {
        if (box < 0 || box >= boxes.size() || base < 0 || base > 1) return BAD;
        if (bits < 0 || bits > 65535 || delay < 0 || delay > 9) return BAD;
        boxes.get(box).bits[base] = bits;
        boxes.get(box).delay[base] = delay;
        boxes.get(box).place[base] = 0;
        return 0;
    }

    int rule(int what, int v) {
        if (what < 0 || what > 1 || v < 0 || v > (what == 0 ? 1 : 16)) return BAD;
        int was = what == 0 ? hidden : least;
        if (what == 0) hidden = v;
        else least = v;
        return was;
    }

    int ask(int newKind, int newK, int newBell) {
        if (newKind < 0 || newKind > 2 || newBell <= tick || newBell > 100000) return BAD;
        if (newKind == 2 && (newK < 2 || newK > 5)) return BAD;
        if (asked) return NO;
        asked = true;
        kind = newKind;
        k = newK;
        bell = newBell;
        come.clear();
        for (Box box : boxes) {
            box.count = 0;
            box.tries = new int[2];
            box.acknowledged = false;
        }
        return 0;
    }

    private boolean isAnswer(int answer) {
        if (kind == 0) return answer >= 0 && answer <= 7;
        if (kind == 1) return answer >= 0 && answer <= 100000;
        for (int[] order : orders(k)) {
            if (Check.order(order) == answer) return true;
        }
        return false;
    }

    int send(int box, int answer) {
        if (box < 0 || box >= boxes.size()) return BAD;
        if (!asked) return NO;
        if (!isAnswer(answer)) return BAD;
        Box of = boxes.get(box);
        of.count++;
        of.answer = answer;
        of.sent = tick;
        of.tries = new int[2];
        of.acknowledged = false;
        return of.count;
    }

    int ticks(int n) {
        if (n < 1 || n > 200) return BAD;
        if (tick + n > 100000) return FULL;
        for (int i = 0; i < n; i++) {
            if (asked) allTry();
            bringDue();
            tick++;
        }
        return tick;
    }

    private void allTry() {
        for (int b = 0; b < boxes.size(); b++) {
            Box box = boxes.get(b);
            if (box.count == 0 || box.acknowledged) continue;
            for (int base = 0; base < 2; base++) {
                if (box.tries[base] == 5) continue;
                box.tries[base]++;
                tries++;
                boolean lost = (box.bits[base] & 1 << box.place[base] % 16) != 0;
                box.place[base]++;
                if (!lost) underWay.add(letter(b, base));
            }
        }
    }

    private Letter letter(int b, int base) {
        Letter letter = new Letter();
        letter.due = tick + boxes.get(b).delay[base];
        letter.box = b;
        letter.base = base;
        letter.answer = boxes.get(b).answer;
        letter.count = boxes.get(b).count;
        letter.sent = boxes.get(b).sent;
        return letter;
    }

    private void bringDue() {
        for (int i = 0; i < underWay.size(); i++) {
            Letter letter = underWay.get(i);
            if (letter.due == tick) {
                underWay.remove(i--);
                come.add(letter);
                Box box = boxes.get(letter.box);
                if (box.count == letter.count) box.acknowledged = true;
            }
        }
    }

    /** The letter with the greatest count of those that came; base -1 stands for both. */
    private Letter greatest(int base, int box, boolean inTime, boolean late) {
        Letter found = null;
        for (Letter letter : come) {
            boolean fits = letter.box == box && (base < 0 || letter.base == base)
                    && (letter.sent < bell ? inTime : late);
            if (fits && (found == null || letter.count > found.count)) found = letter;
        }
        return found;
    }

    int base(int base, int box, int what) {
        if (base < 0 || base > 1 || box < 0 || box >= boxes.size()) return BAD;
        if (what < 0 || what > 3) return BAD;
        Letter letter = greatest(base, box, what != 2, what >= 2);
        if (letter == null) return NONE;
        return what == 0 ? letter.answer : letter.count;
    }

    int about(int box, int what) {
        if (box < 0 || box >= boxes.size()) return BAD;
        Box of = boxes.get(box);
        if (what == 0) return of.count;
        if (what == 1) return of.tries[0] + of.tries[1];
        if (what == 2) return of.acknowledged ? 1 : 0;
        if (what == 3) return answerOf(box);
        return BAD;
    }

    private int answerOf(int box) {
        Letter letter = greatest(-1, box, true, false);
        return letter == null ? NONE : letter.answer;
    }

    /** Answers by their boxes. */
    private TreeMap<Integer, Integer> allAnswers() {
        TreeMap<Integer, Integer> all = new TreeMap<>();
        for (int box = 0; box < boxes.size(); box++) {
            if (answerOf(box) != NONE) all.put(box, answerOf(box));
        }
        return all;
    }

    private boolean isHidden() {
        return hidden == 1 && tick < bell;
    }

    int answers() {
        return !asked || isHidden() ? NO : allAnswers().size();
    }

    int share(int choice) {
        if (choice < 0 || choice > 7) return BAD;
        if (!asked || isHidden() || kind != 0 || allAnswers().size() < least) return NO;
        return (int) allAnswers().values().stream().filter(v -> v == choice).count();
    }

    private static int lesserMiddle(List<Integer> row) {
        List<Integer> sorted = new ArrayList<>(row);
        sorted.sort(null);
        return sorted.get(sorted.size() % 2 == 1 ? sorted.size() / 2 : sorted.size() / 2 - 1);
    }

    int number(int what) {
        if (what < 0 || what > 2) return BAD;
        TreeMap<Integer, Integer> all = allAnswers();
        if (!asked || isHidden() || kind != 1 || all.size() < least || all.isEmpty()) return NO;
        int middle = lesserMiddle(new ArrayList<>(all.values()));
        List<Integer> offs = new ArrayList<>();
        for (int v : all.values()) offs.add(Math.abs(v - middle));
        int middleOff = lesserMiddle(offs);
        int odd = 0;
        for (int box : all.keySet()) {
            if (Math.abs(all.get(box) - middle) > 3 * middleOff) odd += 1 << box;
        }
        return what == 0 ? middle : what == 1 ? Integer.bitCount(odd) : odd;
    }

    /** All orders of n things, the one with the lowest things first. */
    private static List<int[]> orders(int n) {
        List<int[]> all = new ArrayList<>();
        for (int code = 0; code < Math.pow(n, n); code++) {
            int[] order = new int[n];
            int rest = code;
            int seen = 0;
            for (int i = n - 1; i >= 0; i--) {
                order[i] = rest % n;
                seen |= 1 << order[i];
                rest /= n;
            }
            if (Integer.bitCount(seen) == n) all.add(order);
        }
        return all;
    }

    private static int placeOf(int thing, int answer, int n) {
        for (int i = 0; i < n; i++) {
            if ((answer >> 3 * i & 7) == thing) return i;
        }
        throw new IllegalStateException();
    }

    private int turnedPairs(int[] order, int answer) {
        int turned = 0;
        for (int i = 0; i < k; i++) {
            for (int j = i + 1; j < k; j++) {
                if (placeOf(order[i], answer, k) > placeOf(order[j], answer, k)) turned++;
            }
        }
        return turned;
    }

    int order(int what) {
        if (what < 0 || what > 1) return BAD;
        TreeMap<Integer, Integer> all = allAnswers();
        if (!asked || isHidden() || kind != 2 || all.size() < least || all.isEmpty()) return NO;
        int fewest = Integer.MAX_VALUE;
        int joined = 0;
        for (int[] order : orders(k)) {
            int turned = 0;
            for (int answer : all.values()) turned += turnedPairs(order, answer);
            if (turned < fewest) {
                fewest = turned;
                joined = Check.order(order);
            }
        }
        return what == 0 ? joined : fewest;
    }

    int close(int right) {
        if (!asked) return NO;
        if (!isAnswer(right)) return BAD;
        if (tick < bell) return NO;
        if (book.size() == 20) return FULL;
        TreeMap<Integer, Boolean> page = new TreeMap<>();
        allAnswers().forEach((box, answer) -> page.put(box, answer == right));
        book.add(page);
        asked = false;
        underWay.clear();
        return rightOnes(page);
    }

    private static int rightOnes(TreeMap<Integer, Boolean> page) {
        return (int) page.values().stream().filter(right -> right).count();
    }

    int book(int i, int box) {
        if (i < 0 || i >= book.size() || box < 0 || box >= boxes.size()) return -9;
        Boolean right = book.get(i).get(box);
        return right == null ? -1 : right ? 1 : 0;
    }

    int marks(int box) {
        if (box < 0 || box >= boxes.size()) return BAD;
        int marks = 0;
        for (int i = 0; i < book.size(); i++) {
            if (book(i, box) == 1) marks++;
        }
        return marks;
    }

    int teams(int all, int what) {
        List<Integer> members = new ArrayList<>();
        for (int box = 0; box < 32; box++) {
            if ((all >>> box & 1) == 1) members.add(box);
        }
        if (members.size() < 2 || members.size() > 12 || what < 0 || what > 1) return BAD;
        if (members.get(members.size() - 1) >= boxes.size()) return BAD;
        int told = -1;
        int evenest = Integer.MAX_VALUE;
        for (int way = 1; way < 1 << members.size(); way += 2) {
            int team = 0;
            int size = 0;
            int apart = 0;
            for (int m = 0; m < members.size(); m++) {
                boolean in = (way >> m & 1) == 1;
                team += in ? 1 << members.get(m) : 0;
                size += in ? 1 : -1;
                apart += in ? marks(members.get(m)) : -marks(members.get(m));
            }
            if (size < -1 || size > 1) continue;
            apart = Math.abs(apart);
            if (apart < evenest || apart == evenest && team < told) {
                evenest = apart;
                told = team;
            }
        }
        return what == 0 ? told : evenest;
    }

    int best() {
        int best = NONE;
        int greatest = -1;
        for (int i = book.size() - 1; i >= 0; i--) {
            int right = rightOnes(book.get(i));
            int lesser = Math.min(right, book.get(i).size() - right);
            if (lesser > greatest) {
                greatest = lesser;
                best = i;
            }
        }
        return best;
    }

    int seed(int v) {
        if (v < 1 || v > 2147483646) return BAD;
        seeded = true;
        seed = v;
        drawn.clear();
        return boxes.size();
    }

    int draw() {
        if (!seeded) return NO;
        List<Integer> left = new ArrayList<>();
        for (int box = 0; box < boxes.size(); box++) {
            if (!drawn.contains(box)) left.add(box);
        }
        if (left.isEmpty()) return NONE;
        seed = seed * 48271L % 2147483647L;
        int lot = left.get((int) (seed % left.size()));
        drawn.add(lot);
        return lot;
    }

    int count(int what) {
        if (what == 0) return boxes.size();
        if (what == 1) return tick;
        if (what == 2) return book.size();
        if (what == 3) return asked ? 1 : 0;
        if (what == 4) return underWay.size();
        if (what == 5) return tries;
        return BAD;
    }
}
