import java.util.Random;

/** Whole lives of mixed calls on the class and on the plain model, answer by answer. */
public final class ModelTest {
    private static final int RUNS = 300;
    /** No turn makes more calls than this, and an object is used for 512. */
    private static final int MOST_OF_A_TURN = 60, LIFE = 512;
    private final Random dice;
    private final Both b;
    private final PlainModel m;
    private final int alphabet;
    private final int longest;
    private final boolean wild;

    private ModelTest(int seed, Check check) {
        dice = new Random(seed);
        b = new Both(check);
        m = b.m;
        alphabet = 1 + dice.nextInt(4);
        longest = 1 + dice.nextInt(seed % 5 == 0 ? 40 : 6);
        wild = seed % 4 == 0;
    }

    public static void main(String[] args) {
        Check check = new Check();
        for (int seed = 0; seed < RUNS; seed++) {
            new ModelTest(seed, check).run("run " + seed);
        }
        check.end("ModelTest");
    }

    private void run(String name) {
        writePage();
        b.begin();
        for (int turn = 0; b.calls + MOST_OF_A_TURN < LIFE; turn++) {
            b.when = name + ", turn " + turn + ": ";
            call();
        }
        b.digest();
    }

    private void writePage() {
        for (int n = 1 + dice.nextInt(longest); n > 0; n--) {
            b.letter(97 + dice.nextInt(alphabet));
        }
    }

    /** Mostly a number from 0 to n, now and then one that names nothing. */
    private int upTo(int n) {
        int odd = dice.nextInt(wild ? 12 : 60);
        if (odd == 0) {
            return -1 - dice.nextInt(2);
        }
        if (odd == 1) {
            return n + 1 + dice.nextInt(2);
        }
        if (odd == 2 && wild) {
            return dice.nextBoolean() ? Integer.MAX_VALUE : Integer.MIN_VALUE;
        }
        return dice.nextInt(Math.max(1, n + 1));
    }

    private void call() {
        int kind = dice.nextInt(100);
        int author = upTo(3);
        int seen = Math.max(0, m.length(2 + author));
        if (kind < 8) {
            writePage();
            int at = upTo(seen);
            b.insert(author, at);
        } else if (kind < 14) {
            int from = upTo(seen - 1), n = upTo(Math.min(3, seen));
            b.remove(author, from, n);
        } else if (kind < 24) {
            int from = upTo(seen - 1), n = upTo(Math.min(4, seen)), to = upTo(seen);
            b.move(author, from, n, to);
        } else if (kind < 34) {
            int change = upTo(m.count(3) - 1);
            boolean is = dice.nextInt(3) > 0;
            b.show(change, is);
        } else if (kind < 48) {
            int change = upTo(m.count(3) - 1), what = upTo(2);
            b.decide(change, what);
        } else {
            ask(kind);
        }
    }

    private void ask(int kind) {
        if (kind < 50) {
            decideAllAndSettle();
        } else if (kind < 51) {
            b.begin();
        } else if (kind < 56) {
            int code = 97 + dice.nextInt(alphabet);
            int sign = wild ? upTo(130) : code;
            b.letter(sign);
        } else if (kind < 59) {
            b.blank();
        } else if (kind < 61) {
            int view = upTo(5);
            b.length(view);
        } else if (kind < 70) {
            int view = upTo(5), place = upTo(m.length(view) - 1), what = upTo(5);
            b.read(view, place, what);
        } else if (kind < 78) {
            int place = upTo(m.count(2) - 1), what = upTo(3);
            b.place(place, what);
        } else if (kind < 86) {
            int change = upTo(m.count(3) - 1), what = upTo(6);
            b.change(change, what);
        } else if (kind < 92) {
            int which = upTo(m.span(0, 0) - 1), what = upTo(3);
            b.span(which, what);
        } else if (kind < 96) {
            findWhatASetReads();
        } else {
            int what = upTo(8);
            b.count(what);
        }
    }

    // Few runs would settle if each CHANGE were decided on its own.
    private void decideAllAndSettle() {
        if (m.count(3) > 8) {
            for (int c = 0; c < m.count(3); c++) {
                int what = 1 + dice.nextInt(2);
                b.decide(c, what);
            }
        }
        b.settle();
    }

    // A PAGE by chance is seldom FOUND, so it is mostly one that some VIEW READS.
    private void findWhatASetReads() {
        if (m.count(4) > 7) {
            return;
        }
        int view = dice.nextInt(6);
        if (m.length(view) <= 40 && dice.nextInt(3) > 0) {
            b.blank();
            for (int i = 0; i < m.length(view); i++) {
                int code = m.read(view, i, 0);
                b.letter(code);
            }
        }
        b.found(0);
        b.found(1);
        int what = upTo(1);
        b.found(what);
    }
}
