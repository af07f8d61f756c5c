import java.util.Random;

/** Long runs of mixed calls on the class and on the plain model, answer by answer. */
public final class ModelTest {
    private static final int RUNS = 400, CALLS = 160;
    private final Random dice;
    private final TrackedLetters x = new TrackedLetters();
    private final PlainModel m = new PlainModel();
    private final int alphabet;
    private final int longest;
    private final boolean wild;

    private ModelTest(int seed) {
        dice = new Random(seed);
        alphabet = 1 + dice.nextInt(4);
        longest = 1 + dice.nextInt(seed % 5 == 0 ? 40 : 6);
        wild = seed % 4 == 0;
    }

    public static void main(String[] args) {
        Check check = new Check();
        for (int seed = 0; seed < RUNS; seed++) {
            new ModelTest(seed).run("run " + seed, check);
        }
        check.end("ModelTest");
    }

    private void run(String name, Check check) {
        writePage();
        check.due(name + " begin", x.begin(), m.begin());
        for (int i = 0; i < CALLS; i++) {
            call(name + ", call " + i + ": ", check);
        }
        check.due(name + " digest", x.digest(), m.digest());
    }

    private void writePage() {
        for (int n = 1 + dice.nextInt(longest); n > 0; n--) {
            int code = 97 + dice.nextInt(alphabet);
            x.letter(code);
            m.letter(code);
        }
    }

    /** Mostly a number from 0 to n, now and then one that names nothing. */
    private int upTo(int n) {
        int odd = dice.nextInt(wild ? 12 : 60);
        if (odd == 0) {
            return -1 - dice.nextInt(2);
        }
        if (odd == 1) {
            return n + 1 + dice.nextInt(2);
        }
        if (odd == 2 && wild) {
            return dice.nextBoolean() ? Integer.MAX_VALUE : Integer.MIN_VALUE;
        }
        return dice.nextInt(Math.max(1, n + 1));
    }

    private void call(String name, Check check) {
        int kind = dice.nextInt(100);
        int author = upTo(3);
        int seen = Math.max(0, m.length(2 + author));
        if (kind < 8) {
            writePage();
            int at = upTo(seen);
            check.due(name + "insert", x.insert(author, at), m.insert(author, at));
        } else if (kind < 14) {
            int from = upTo(seen - 1), n = upTo(Math.min(3, seen));
            check.due(name + "remove", x.remove(author, from, n), m.remove(author, from, n));
        } else if (kind < 24) {
            int from = upTo(seen - 1), n = upTo(Math.min(4, seen)), to = upTo(seen);
            check.due(name + "move", x.move(author, from, n, to), m.move(author, from, n, to));
        } else if (kind < 34) {
            int change = upTo(m.count(3) - 1);
            boolean is = dice.nextInt(3) > 0;
            check.due(name + "show", x.show(change, is), m.show(change, is));
        } else if (kind < 48) {
            int change = upTo(m.count(3) - 1), what = upTo(2);
            check.due(name + "decide", x.decide(change, what), m.decide(change, what));
        } else {
            ask(name, check, kind);
        }
    }

    private void ask(String name, Check check, int kind) {
        if (kind < 50) {
            decideAllAndSettle(name, check);
        } else if (kind < 51) {
            check.due(name + "begin", x.begin(), m.begin());
        } else if (kind < 56) {
            int code = 97 + dice.nextInt(alphabet);
            int sign = wild ? upTo(130) : code;
            check.due(name + "letter", x.letter(sign), m.letter(sign));
        } else if (kind < 59) {
            check.due(name + "blank", x.blank(), m.blank());
        } else if (kind < 61) {
            int view = upTo(5);
            check.due(name + "length", x.length(view), m.length(view));
        } else if (kind < 70) {
            int view = upTo(5), place = upTo(m.length(view) - 1), what = upTo(5);
            check.due(name + "read", x.read(view, place, what), m.read(view, place, what));
        } else if (kind < 78) {
            int place = upTo(m.count(2) - 1), what = upTo(3);
            check.due(name + "place", x.place(place, what), m.place(place, what));
        } else if (kind < 86) {
            int change = upTo(m.count(3) - 1), what = upTo(6);
            check.due(name + "change", x.change(change, what), m.change(change, what));
        } else if (kind < 92) {
            int which = upTo(m.span(0, 0) - 1), what = upTo(3);
            check.due(name + "span", x.span(which, what), m.span(which, what));
        } else if (kind < 96) {
            findWhatASetReads(name, check);
        } else {
            int what = upTo(8);
            check.due(name + "count", x.count(what), m.count(what));
        }
    }

    // Few runs would settle if each CHANGE were decided on its own.
    private void decideAllAndSettle(String name, Check check) {
        if (m.count(3) > 8) {
            for (int c = 0; c < m.count(3); c++) {
                int what = 1 + dice.nextInt(2);
                check.due(name + "decide", x.decide(c, what), m.decide(c, what));
            }
        }
        check.due(name + "settle", x.settle(), m.settle());
    }

    // A PAGE by chance is seldom FOUND, so it is mostly one that some VIEW READS.
    private void findWhatASetReads(String name, Check check) {
        if (m.count(4) > 7) {
            return;
        }
        int view = dice.nextInt(6);
        if (m.length(view) <= 40 && dice.nextInt(3) > 0) {
            check.due(name + "blank", x.blank(), m.blank());
            for (int i = 0; i < m.length(view); i++) {
                int code = m.read(view, i, 0);
                check.due(name + "letter", x.letter(code), m.letter(code));
            }
        }
        check.due(name + "found(0)", x.found(0), m.found(0));
        check.due(name + "found(1)", x.found(1), m.found(1));
        int what = upTo(1);
        check.due(name + "found", x.found(what), m.found(what));
    }
}
