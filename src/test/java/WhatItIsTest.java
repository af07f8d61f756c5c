import java.util.ArrayList;
import java.util.List;

/** The section "What it is": 64 LETTERS at once, a life of 512 calls, each object on its own. */
public final class WhatItIsTest {
    private static final int LIFE = 512, ROUND = 28;
    private static final int FULL = -1004;
    private static final Check CHECK = new Check();

    /** One call on an object and on the plain model. */
    private interface Step {
        void on(Both b, int turn);
    }

    public static void main(String[] args) {
        lettersAre64AtOnceNotEver();
        lettersAreNumberedFrom0InEachText();
        eachCallMakesAWholeLife();
        changesMakeAWholeLife();
        objectsShareNothing();
        sameCallsGiveTheSameAnswers();
        tellingChangesNothing();
        CHECK.end("WhatItIsTest");
    }

    private static void due(String call, long got, long want) {
        CHECK.due(call, got, want);
    }

    private static void lettersAre64AtOnceNotEver() {
        String s = "What it is, 'LETTERS (64 at most at once)': ";
        TrackedLetters x = Check.begun(Check.FORTY);
        due(s + "40 and 24", Check.insert(x, 0, 40, Check.FORTY.substring(0, 24)), 0);
        x.letter('z');
        CHECK.refused(s + "one more", x, FULL, t -> t.insert(0, 0));
        for (int round = 0; round < 6; round++) {
            x.decide(0, 2);
            due(s + "settled, round " + round, x.settle(), 40);
            x.blank();
            due(s + "24 others, round " + round, Check.insert(x, round % 4, 0, Check.FORTY.substring(round, round + 24)), 0);
            due(s + "LETTERS, round " + round, x.count(1), 64);
            x.letter('z');
            CHECK.refused(s + "one more, round " + round, x, FULL, t -> t.insert(3, 0));
        }
    }

    private static void lettersAreNumberedFrom0InEachText() {
        String s = "What it is, 'numbered from 0 as they come: first those of THE FIRST TEXT, then those that are INSERTED': ";
        TrackedLetters x = Check.begun("ab");
        for (int round = 0; round < 3; round++) {
            Check.insert(x, 0, 0, "yz");
            int[] numbers = {x.read(1, 0, 1), x.read(1, 1, 1), x.read(1, 2, 1), x.read(1, 3, 1)};
            CHECK.row(s + "round " + round, numbers, 2, 3, 0, 1);
            Check.write(x, "ab");
            due(s + "begin, round " + round, x.begin(), 2);
        }
    }

    // ---- a life of 512 calls

    private static void eachCallMakesAWholeLife() {
        List<Step> steps = new ArrayList<>();
        steps.add((b, turn) -> b.letter(31 + turn % 97));
        steps.add((b, turn) -> b.blank());
        steps.add((b, turn) -> b.begin());
        steps.add((b, turn) -> b.insert(turn % 5, turn % 3));
        steps.add((b, turn) -> b.remove(turn % 4, turn % 3, 1 + turn % 2));
        steps.add((b, turn) -> b.move(turn % 4, turn % 3, 1 + turn % 2, turn % 5));
        steps.add((b, turn) -> b.show(turn % 4, turn % 3 == 0));
        steps.add((b, turn) -> b.decide(turn % 4, turn % 3));
        steps.add((b, turn) -> b.settle());
        steps.add((b, turn) -> b.length(turn % 7));
        steps.add((b, turn) -> b.read(turn % 6, turn % 5, turn % 7));
        steps.add((b, turn) -> b.place(turn % 8, turn % 5));
        steps.add((b, turn) -> b.change(turn % 4, turn % 8));
        steps.add((b, turn) -> b.span(turn % 5, turn % 6 - 1));
        steps.add((b, turn) -> b.found(turn % 3));
        steps.add((b, turn) -> b.count(turn % 10));
        steps.add((b, turn) -> b.digest());
        for (Step step : steps) {
            live(new Both(CHECK), step);
            live(ordinary(), step);
        }
    }

    private static void live(Both b, Step step) {
        while (b.calls < LIFE - 1) {
            step.on(b, b.calls);
        }
        b.digest();
    }

    private static Both ordinary() {
        Both b = new Both(CHECK);
        b.write("abcd");
        b.begin();
        b.write("xy");
        b.insert(0, 1);
        b.show(0, true);
        b.move(1, 0, 2, 4);
        b.remove(2, 1, 2);
        b.move(3, 0, 1, 3);
        b.decide(1, 1);
        b.decide(3, 2);
        b.write("ab");
        return b;
    }

    // Texts, CHANGES and settling in turns, so that rows are used again and again.
    private static void changesMakeAWholeLife() {
        for (int way = 0; way < 8; way++) {
            Both b = new Both(CHECK);
            for (int turn = 0; b.calls + ROUND < LIFE; turn++) {
                oneRound(b, way, turn);
            }
            b.digest();
            due("What it is, a life is no longer than 512 calls", b.calls <= LIFE ? 1 : 0, 1);
        }
    }

    /** No more than ROUND calls. */
    private static void oneRound(Both b, int way, int turn) {
        b.write("pqrst".substring(turn % 4));
        if ((turn + way) % 3 == 0) {
            b.begin();
        } else {
            b.insert(way % 4, 0);
        }
        b.write("mn");
        b.insert(turn % 4, turn % 2);
        b.move((turn + 1) % 4, 0, 1, 2);
        b.move((turn + 2) % 4, 0, 2, 2);
        b.remove((turn + 3) % 4, 0, 1);
        b.show(turn % 3, turn % 2 == 0);
        b.digest();
        for (int c = 0; c < 12; c++) {
            b.decide(c, way % 2 == 0 ? 1 + c % 2 : 2 - turn % 2);
        }
        if (way < 4 || turn % 2 == 0) {
            b.settle();
        }
        b.blank();
    }

    // ---- each object on its own

    private static void objectsShareNothing() {
        Both b = new Both(CHECK);
        Both c = new Both(CHECK);
        Both d = ordinary();
        for (int turn = 0; turn < 12; turn++) {
            oneRound(b, 1, turn);
            oneRound(c, 6, turn + 1);
        }
        b.digest();
        c.digest();
        d.digest();
        due("What it is, a new object beside others", new TrackedLetters().count(7), 0);
    }

    private static void sameCallsGiveTheSameAnswers() {
        Both b = new Both(CHECK);
        Both c = new Both(CHECK);
        for (int turn = 0; turn < 12; turn++) {
            oneRound(b, 3, turn);
            oneRound(c, 3, turn);
            due("What it is, the same calls, round " + turn, b.x.digest(), c.x.digest());
        }
    }

    private static void tellingChangesNothing() {
        Both b = ordinary();
        long before = b.x.digest();
        for (int i = -1; i < 8; i++) {
            b.length(i);
            b.found(i);
            b.count(i);
            for (int j = -1; j < 8; j++) {
                b.place(i, j);
                b.change(i, j);
                b.span(i, j);
                b.read(i, j, i);
                due("What it is, 'what is told' changes nothing", b.x.digest(), before);
            }
        }
    }
}
