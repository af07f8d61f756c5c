import static java.lang.Integer.MAX_VALUE;
import static java.lang.Integer.MIN_VALUE;

/** Promises 5 to 10, a test for each sentence that names a boundary: the case itself, and the last one on this side. */
public final class ChangesBoundsTest {
    private static final int NONE = -1, UNKNOWN = -1001, OUTSIDE = -1002, STATE = -1003, FULL = -1004;
    private static final int[] NO_AUTHORS = {-1, 4, 5, MIN_VALUE, MIN_VALUE + 1, MAX_VALUE, MAX_VALUE - 1};
    private static final Check CHECK = new Check();

    public static void main(String[] args) {
        insertByAuthors0To3();
        insertAt0ToLength();
        insertAtLengthOfHisOwnView();
        insertIntoAnEmptyView();
        insertOfAnEmptyPage();
        insertUpTo64Letters();
        insertUpTo12Changes();
        insertUpTo90Places();
        insertTellsTheFirstRefusal();
        insertCountsWhatIsRefused();
        removeByAuthors0To3();
        removeFrom0ToTheLast();
        removeOfOneAtLeast();
        removeOfNoMoreThanThereAre();
        removeUpTo12Changes();
        removeNeedsNoOtherRoom();
        removeTellsTheFirstRefusal();
        moveByAuthors0To3();
        moveFrom0ToTheLast();
        moveOfOneAtLeastAndNoMoreThanThereAre();
        moveTo0ToLength();
        moveToNoneBetween();
        moveUpTo12Changes();
        moveUpTo90Places();
        moveNeedsNoLetters();
        moveTellsTheFirstRefusal();
        showOfWhatIsThere();
        showTellsWhatWas();
        decideOfWhatIsThere();
        decide0To2();
        decideTellsTheFirstRefusal();
        settleWithOneOpen();
        settleWithNoneOpen();
        settleToNothing();
        settleUpTo64Letters();
        settleLeavesRoomForAll();
        settleKeepsThePage();
        CHECK.end("ChangesBoundsTest");
    }

    private static void due(String call, long got, long want) {
        CHECK.due(call, got, want);
    }

    // ---- insert

    private static void insertByAuthors0To3() {
        String s = "5, 'UNKNOWN: author': ";
        TrackedLetters x = Check.begun("abc");
        Check.write(x, "z");
        for (int author : NO_AUTHORS) {
            CHECK.refused(s + author, x, UNKNOWN, t -> t.insert(author, 0));
        }
        due(s + "author 0", x.insert(0, 0), 0);
        due(s + "author 3", Check.insert(x, 3, 0, "y"), 1);
        due(s + "told", x.change(1, 1), 3);
    }

    private static void insertAt0ToLength() {
        String s = "5, 'UNKNOWN: at' (0 to LENGTH): ";
        TrackedLetters x = Check.begun("abc");
        Check.write(x, "z");
        for (int at : new int[] {-1, 4, 5, 64, 90, MIN_VALUE, MIN_VALUE + 3, MAX_VALUE, MAX_VALUE - 1}) {
            CHECK.refused(s + at, x, UNKNOWN, t -> t.insert(0, at));
        }
        due(s + "THE PAGE is kept", x.count(0), 1);
        due(s + "at LENGTH", x.insert(0, 3), 0);
        due(s + "at 0", Check.insert(x, 0, 0, "y"), 1);
        CHECK.reads(s, x, 2, "yabcz");
    }

    private static void insertAtLengthOfHisOwnView() {
        String s = "5, LENGTH is of his own VIEW: ";
        TrackedLetters x = Check.begun("abc");
        Check.insert(x, 0, 3, "de");
        x.remove(1, 0, 2);
        Check.write(x, "z");
        CHECK.refused(s + "author 0, 6 of 5", x, UNKNOWN, t -> t.insert(0, 6));
        CHECK.refused(s + "author 1, 2 of 1", x, UNKNOWN, t -> t.insert(1, 2));
        CHECK.refused(s + "author 2, 4 of 3", x, UNKNOWN, t -> t.insert(2, 4));
        due(s + "author 1, 1 of 1", x.insert(1, 1), 2);
        CHECK.reads(s + "behind all PLACES", x, 1, "cdez");
        due(s + "author 0, 5 of 5", Check.insert(x, 0, 5, "y"), 3);
        due(s + "author 2, 3 of 3", Check.insert(x, 2, 3, "x"), 4);
        CHECK.reads(s + "behind all PLACES", x, 1, "cdezyx");
    }

    private static void insertIntoAnEmptyView() {
        String s = "5, LENGTH 0: ";
        TrackedLetters x = Check.begun("abc");
        x.remove(1, 0, 3);
        Check.write(x, "z");
        CHECK.refused(s + "at 1", x, UNKNOWN, t -> t.insert(1, 1));
        CHECK.refused(s + "at -1", x, UNKNOWN, t -> t.insert(1, -1));
        due(s + "at 0, which is LENGTH", x.insert(1, 0), 1);
        due(s + "behind all PLACES", x.read(3, 0, 2), 3);
    }

    private static void insertOfAnEmptyPage() {
        String s = "5, 'STATE: THE PAGE is empty': ";
        TrackedLetters x = Check.begun("abc");
        CHECK.refused(s + "none", x, STATE, t -> t.insert(0, 0));
        CHECK.refused(s + "none, at LENGTH", x, STATE, t -> t.insert(3, 3));
        x.letter('z');
        due(s + "one sign", x.insert(0, 0), 0);
        CHECK.refused(s + "'THE PAGE is empty then'", x, STATE, t -> t.insert(0, 0));
        x.letter('y');
        x.blank();
        CHECK.refused(s + "behind blank()", x, STATE, t -> t.insert(0, 0));
    }

    private static void insertUpTo64Letters() {
        String s = "5, 'FULL: there would be more than 64 LETTERS': ";
        TrackedLetters x = Check.begun(Check.FORTY);
        Check.write(x, Check.FORTY.substring(0, 25));
        CHECK.refused(s + "65 at one go", x, FULL, t -> t.insert(0, 0));
        x.blank();
        due(s + "64 at one go", Check.insert(x, 0, 0, Check.FORTY.substring(0, 24)), 0);
        due(s + "LETTERS", x.count(1), 64);
        x.letter('z');
        for (int author = 0; author < 4; author++) {
            int by = author;
            CHECK.refused(s + "65, by author " + by, x, FULL, t -> t.insert(by, 0));
        }
        due(s + "THE PAGE is kept", x.blank(), 1);
        due(s + "LETTER 63 is told", x.read(2, 23, 1), 63);

        TrackedLetters y = Check.begun(Check.FORTY.substring(0, 24));
        due(s + "24 and a full PAGE", Check.insert(y, 0, 24, Check.FORTY), 0);
        CHECK.reads(s, y, 2, Check.FORTY.substring(0, 24) + Check.FORTY);

        TrackedLetters z = Check.begun(Check.FORTY.substring(0, 25));
        Check.write(z, Check.FORTY);
        CHECK.refused(s + "25 and a full PAGE", z, FULL, t -> t.insert(0, 25));
    }

    private static void insertUpTo12Changes() {
        String s = "5, 'FULL: there would be more than 12 CHANGES': ";
        TrackedLetters x = Check.begun("a");
        for (int c = 0; c < 12; c++) {
            due(s + "CHANGE " + c, Check.insert(x, c % 4, 0, "z"), c);
        }
        x.letter('y');
        CHECK.refused(s + "CHANGE 12", x, FULL, t -> t.insert(0, 0));
        for (int c = 0; c < 12; c++) {
            x.decide(c, 1 + c % 2);
        }
        CHECK.refused(s + "CHANGE 12, none OPEN", x, FULL, t -> t.insert(0, 0));
        due(s + "CHANGES", x.count(3), 12);
    }

    private static void insertUpTo90Places() {
        String s = "5, 'FULL: there would be more than 90 PLACES': ";
        TrackedLetters x = Check.begun(Check.FORTY);
        x.move(0, 0, 40, 40);
        Check.write(x, "0123456789A");
        CHECK.refused(s + "91, of 51 LETTERS", x, FULL, t -> t.insert(0, 0));
        due(s + "THE PAGE is kept", x.blank(), 11);
        due(s + "90, of 50 LETTERS", Check.insert(x, 0, 0, "0123456789"), 1);
        CHECK.row(s + "counts", Check.counts(x), 0, 50, 90, 2, 2, 0, 0, 1, 0);
        x.letter('z');
        CHECK.refused(s + "91 by one", x, FULL, t -> t.insert(1, 40));
        due(s + "PLACE 89 is told", x.place(89, 0), 39);
        CHECK.reads(s, x, 2, "0123456789" + Check.FORTY);
    }

    private static void insertTellsTheFirstRefusal() {
        String s = "5, 'of several the first': ";
        TrackedLetters x = Check.ofAllFull();
        CHECK.refused(s + "author, ahead of STATE and FULL", x, UNKNOWN, t -> t.insert(4, 0));
        CHECK.refused(s + "at, ahead of STATE and FULL", x, UNKNOWN, t -> t.insert(0, 65));
        CHECK.refused(s + "STATE, ahead of FULL", x, STATE, t -> t.insert(0, 0));
        x.letter('z');
        CHECK.refused(s + "author, ahead of FULL", x, UNKNOWN, t -> t.insert(-1, 0));
        CHECK.refused(s + "at, ahead of FULL", x, UNKNOWN, t -> t.insert(0, -1));
        CHECK.refused(s + "FULL", x, FULL, t -> t.insert(0, 0));
        TrackedLetters y = Check.begun("abc");
        CHECK.refused(s + "author, ahead of STATE", y, UNKNOWN, t -> t.insert(4, 0));
        CHECK.refused(s + "at, ahead of STATE", y, UNKNOWN, t -> t.insert(0, 4));
        CHECK.refused(s + "author and at", y, UNKNOWN, t -> t.insert(MAX_VALUE, MIN_VALUE));
    }

    private static void insertCountsWhatIsRefused() {
        String s = "5, what a REFUSED one INSERTED or MOVED 'stays kept': ";
        TrackedLetters x = Check.ofLetters64();
        x.decide(0, 2);
        x.letter('z');
        CHECK.refused(s + "65 LETTERS", x, FULL, t -> t.insert(0, 0));
        TrackedLetters y = Check.ofPlaces90();
        y.decide(0, 2);
        y.decide(1, 2);
        y.letter('z');
        CHECK.refused(s + "91 PLACES", y, FULL, t -> t.insert(0, 0));
        TrackedLetters z = Check.ofChanges12();
        z.decide(11, 2);
        z.letter('z');
        CHECK.refused(s + "13 CHANGES", z, FULL, t -> t.insert(0, 0));
    }

    // ---- remove

    private static void removeByAuthors0To3() {
        String s = "6, 'UNKNOWN: author': ";
        TrackedLetters x = Check.begun("abc");
        for (int author : NO_AUTHORS) {
            CHECK.refused(s + author, x, UNKNOWN, t -> t.remove(author, 0, 1));
        }
        due(s + "author 0", x.remove(0, 0, 1), 0);
        due(s + "author 3", x.remove(3, 0, 1), 1);
        due(s + "told", x.change(1, 1), 3);
    }

    private static void removeFrom0ToTheLast() {
        String s = "6, 'UNKNOWN: from': ";
        TrackedLetters x = Check.begun("abc");
        for (int from : new int[] {-1, 3, 4, 64, 90, MIN_VALUE, MIN_VALUE + 2, MAX_VALUE, MAX_VALUE - 1}) {
            CHECK.refused(s + from, x, UNKNOWN, t -> t.remove(0, from, 1));
        }
        due(s + "the last one", x.remove(0, 2, 1), 0);
        CHECK.refused(s + "the last one is gone in his VIEW", x, UNKNOWN, t -> t.remove(0, 2, 1));
        due(s + "but not in another one", x.remove(1, 2, 1), 1);
        due(s + "0", x.remove(0, 0, 1), 2);
        due(s + "the only one", x.remove(0, 0, 1), 3);
        CHECK.refused(s + "of LENGTH 0", x, UNKNOWN, t -> t.remove(0, 0, 1));
    }

    private static void removeOfOneAtLeast() {
        String s = "6, 'OUTSIDE: n' (1 at least): ";
        TrackedLetters x = Check.begun("abc");
        for (int n : new int[] {0, -1, -2, MIN_VALUE, MIN_VALUE + 1}) {
            CHECK.refused(s + n, x, OUTSIDE, t -> t.remove(0, 0, n));
            CHECK.refused(s + n + " from the last", x, OUTSIDE, t -> t.remove(0, 2, n));
        }
        due(s + "1", x.remove(0, 1, 1), 0);
        CHECK.reads(s, x, 2, "ac");
    }

    private static void removeOfNoMoreThanThereAre() {
        String s = "6, 'OUTSIDE: n (there are not so many from there on, too)': ";
        for (int from = 0; from < 4; from++) {
            int at = from;
            TrackedLetters x = Check.begun("abcd");
            for (int n : new int[] {5 - at, 6 - at, 65, MAX_VALUE - at, MAX_VALUE - 1, MAX_VALUE}) {
                CHECK.refused(s + n + " from " + at, x, OUTSIDE, t -> t.remove(0, at, n));
            }
            due(s + "all from " + at, x.remove(0, at, 4 - at), 0);
            CHECK.reads(s, x, 2, "abcd".substring(0, at));
            due(s + "TOUCHED", x.change(0, 4), 4 - at);
        }
        TrackedLetters x = Check.begun("abcd");
        x.remove(1, 0, 2);
        CHECK.refused(s + "3 of the 2 that he sees", x, OUTSIDE, t -> t.remove(1, 0, 3));
        due(s + "3 of the 4 that another sees", x.remove(2, 0, 3), 1);
    }

    private static void removeUpTo12Changes() {
        String s = "6, 'FULL', 12 CHANGES: ";
        TrackedLetters x = Check.begun("abcd");
        for (int c = 0; c < 12; c++) {
            due(s + "CHANGE " + c, x.remove(c % 4, 0, 1), c);
        }
        CHECK.refused(s + "CHANGE 12", x, FULL, t -> t.remove(0, 0, 1));
        x.decide(0, 2);
        CHECK.refused(s + "CHANGE 12, one REFUSED", x, FULL, t -> t.remove(0, 0, 1));
    }

    private static void removeNeedsNoOtherRoom() {
        String s = "6, FULL by CHANGES alone: ";
        TrackedLetters x = Check.ofLetters64();
        due(s + "64 LETTERS", x.remove(0, 0, 64), 1);
        CHECK.reads(s, x, 2, "");
        due(s + "all 64 are TOUCHED", x.change(1, 4), 64);
        TrackedLetters y = Check.ofPlaces90();
        due(s + "90 PLACES", y.remove(0, 0, 50), 2);
        CHECK.reads(s, y, 2, "");
    }

    private static void removeTellsTheFirstRefusal() {
        String s = "6, 'of several the first': ";
        TrackedLetters x = Check.ofChanges12();
        CHECK.refused(s + "author, ahead of n and FULL", x, UNKNOWN, t -> t.remove(4, 0, 0));
        CHECK.refused(s + "from, ahead of n and FULL", x, UNKNOWN, t -> t.remove(0, 6, 0));
        CHECK.refused(s + "from -1, ahead of n", x, UNKNOWN, t -> t.remove(0, -1, MIN_VALUE));
        CHECK.refused(s + "from MAX, ahead of n", x, UNKNOWN, t -> t.remove(0, MAX_VALUE, MAX_VALUE));
        CHECK.refused(s + "n, ahead of FULL", x, OUTSIDE, t -> t.remove(0, 0, 0));
        CHECK.refused(s + "n too many, ahead of FULL", x, OUTSIDE, t -> t.remove(0, 5, 2));
        CHECK.refused(s + "FULL", x, FULL, t -> t.remove(0, 5, 1));
    }

    // ---- move

    private static void moveByAuthors0To3() {
        String s = "7, 'UNKNOWN: author': ";
        TrackedLetters x = Check.begun("abc");
        for (int author : NO_AUTHORS) {
            CHECK.refused(s + author, x, UNKNOWN, t -> t.move(author, 0, 1, 3));
        }
        due(s + "author 0", x.move(0, 0, 1, 3), 0);
        due(s + "author 3", x.move(3, 0, 1, 3), 1);
        due(s + "told", x.change(1, 1), 3);
    }

    private static void moveFrom0ToTheLast() {
        String s = "7, 'UNKNOWN: from': ";
        TrackedLetters x = Check.begun("abc");
        for (int from : new int[] {-1, 3, 4, 64, 90, MIN_VALUE, MIN_VALUE + 2, MAX_VALUE, MAX_VALUE - 1}) {
            CHECK.refused(s + from, x, UNKNOWN, t -> t.move(0, from, 1, 0));
        }
        due(s + "the last one", x.move(0, 2, 1, 0), 0);
        due(s + "0", x.move(0, 0, 1, 3), 1);
        CHECK.reads(s, x, 2, "abc");
        x.remove(0, 0, 3);
        CHECK.refused(s + "of LENGTH 0", x, UNKNOWN, t -> t.move(0, 0, 1, 0));
    }

    private static void moveOfOneAtLeastAndNoMoreThanThereAre() {
        String s = "7, 'OUTSIDE: n (as remove())': ";
        for (int from = 0; from < 4; from++) {
            int at = from;
            TrackedLetters x = Check.begun("abcd");
            for (int n : new int[] {0, -1, MIN_VALUE, MIN_VALUE + 1, 5 - at, 65, MAX_VALUE - at, MAX_VALUE}) {
                CHECK.refused(s + n + " from " + at, x, OUTSIDE, t -> t.move(0, at, n, 0));
                CHECK.refused(s + n + " from " + at + " to LENGTH", x, OUTSIDE, t -> t.move(0, at, n, 4));
            }
            due(s + "all from " + at, x.move(0, at, 4 - at, 0), 0);
            CHECK.reads(s, x, 2, "abcd".substring(at) + "abcd".substring(0, at));
            due(s + "one from " + at, x.move(1, at, 1, 0), 1);
        }
    }

    private static void moveTo0ToLength() {
        String s = "7, 'UNKNOWN: to (0 to LENGTH)': ";
        TrackedLetters x = Check.begun("abcd");
        for (int to : new int[] {-1, 5, 6, 64, 90, MIN_VALUE, MIN_VALUE + 4, MAX_VALUE, MAX_VALUE - 1}) {
            CHECK.refused(s + to, x, UNKNOWN, t -> t.move(0, 1, 2, to));
            CHECK.refused(s + to + ", of all", x, UNKNOWN, t -> t.move(0, 0, 4, to));
        }
        due(s + "LENGTH", x.move(0, 1, 2, 4), 0);
        CHECK.reads(s, x, 2, "adbc");
        due(s + "0", x.move(0, 1, 2, 0), 1);
        CHECK.reads(s, x, 2, "dbac");
        x.remove(1, 0, 2);
        CHECK.refused(s + "LENGTH is of his own VIEW", x, UNKNOWN, t -> t.move(1, 0, 1, 3));
        due(s + "LENGTH of his own VIEW", x.move(1, 0, 1, 2), 3);
    }

    private static void moveToNoneBetween() {
        String s = "7, 'STATE: it is one between': ";
        for (int from = 0; from < 5; from++) {
            for (int n = 1; n <= 5 - from; n++) {
                for (int to = 0; to <= 5; to++) {
                    oneMove(s, from, n, to);
                }
            }
        }
    }

    private static void oneMove(String s, int from, int n, int to) {
        TrackedLetters x = Check.begun("abcde");
        String name = s + n + " from " + from + " to " + to;
        if (to > from && to < from + n) {
            CHECK.refused(name, x, STATE, t -> t.move(2, from, n, to));
            return;
        }
        due(name, x.move(2, from, n, to), 0);
        StringBuilder b = new StringBuilder("abcde");
        b.insert(to, "abcde".substring(from, from + n).toUpperCase());
        int old = to <= from ? from + n : from;
        CHECK.reads(name, x, 4, b.delete(old, old + n).toString().toLowerCase());
        due(name + ", the first PLACE", x.place(to, 2), 0);
        due(name + ", from where", x.place(to, 1), to <= from ? from + n : from);
    }

    private static void moveUpTo12Changes() {
        String s = "7, 'FULL', 12 CHANGES: ";
        TrackedLetters x = Check.begun("abcd");
        for (int c = 0; c < 12; c++) {
            due(s + "CHANGE " + c, x.move(c % 4, 0, 1, 4), c);
        }
        CHECK.refused(s + "CHANGE 12", x, FULL, t -> t.move(0, 0, 1, 4));
        x.decide(3, 2);
        CHECK.refused(s + "CHANGE 12, one REFUSED", x, FULL, t -> t.move(0, 0, 1, 4));
    }

    private static void moveUpTo90Places() {
        String s = "7, 'FULL', 90 PLACES: ";
        TrackedLetters x = Check.begun(Check.FORTY);
        x.move(0, 0, 40, 0);
        CHECK.refused(s + "91", x, FULL, t -> t.move(0, 0, 11, 40));
        CHECK.refused(s + "120", x, FULL, t -> t.move(1, 0, 40, 0));
        due(s + "90", x.move(0, 0, 10, 40), 1);
        due(s + "PLACES", x.count(2), 90);
        CHECK.refused(s + "91 by one", x, FULL, t -> t.move(0, 0, 1, 40));
        x.decide(0, 2);
        CHECK.refused(s + "what a REFUSED one MOVED stays kept", x, FULL, t -> t.move(0, 0, 1, 40));
        CHECK.row(s + "PLACE 89", Check.placeOf(x, 89), 9, 9, 1, 3);
        due(s + "PLACE 90", x.place(90, 0), UNKNOWN);
    }

    private static void moveNeedsNoLetters() {
        String s = "7, FULL by CHANGES and PLACES alone: ";
        TrackedLetters x = Check.ofLetters64();
        CHECK.refused(s + "64 LETTERS, 91 PLACES", x, FULL, t -> t.move(0, 0, 27, 64));
        due(s + "64 LETTERS, 90 PLACES", x.move(0, 0, 26, 64), 1);
        due(s + "LETTERS", x.count(1), 64);
        due(s + "the last PLACE", x.place(89, 0), 25);
    }

    private static void moveTellsTheFirstRefusal() {
        String s = "7, 'of several the first': ";
        TrackedLetters x = Check.ofAllFull();
        CHECK.refused(s + "author, ahead of all", x, UNKNOWN, t -> t.move(4, 0, 0, 99));
        CHECK.refused(s + "from, ahead of n", x, UNKNOWN, t -> t.move(0, 64, 0, 0));
        CHECK.refused(s + "from -1, ahead of n", x, UNKNOWN, t -> t.move(0, -1, MAX_VALUE, 0));
        CHECK.refused(s + "n 0, ahead of to", x, OUTSIDE, t -> t.move(0, 0, 0, -1));
        CHECK.refused(s + "n MAX, ahead of to", x, OUTSIDE, t -> t.move(0, 1, MAX_VALUE, MAX_VALUE));
        CHECK.refused(s + "n, ahead of STATE", x, OUTSIDE, t -> t.move(0, 0, 65, 1));
        CHECK.refused(s + "to, ahead of FULL", x, UNKNOWN, t -> t.move(0, 0, 2, 65));
        CHECK.refused(s + "STATE, ahead of FULL", x, STATE, t -> t.move(0, 0, 2, 1));
        CHECK.refused(s + "FULL", x, FULL, t -> t.move(0, 0, 1, 0));
        TrackedLetters y = Check.ofPlaces90();
        CHECK.refused(s + "STATE, ahead of 91 PLACES", y, STATE, t -> t.move(0, 0, 2, 1));
        CHECK.refused(s + "to, ahead of 91 PLACES", y, UNKNOWN, t -> t.move(0, 0, 2, -1));
        CHECK.refused(s + "91 PLACES", y, FULL, t -> t.move(0, 0, 2, 2));
    }

    // ---- show, decide

    private static void showOfWhatIsThere() {
        String s = "8, 'UNKNOWN': ";
        TrackedLetters x = Check.begun("abc");
        CHECK.refused(s + "no CHANGE", x, UNKNOWN, t -> t.show(0, true));
        x.remove(0, 0, 1);
        for (int change : new int[] {-1, 1, 11, 12, 32, 64, MIN_VALUE, MIN_VALUE + 1, MAX_VALUE, MAX_VALUE - 1}) {
            CHECK.refused(s + change, x, UNKNOWN, t -> t.show(change, true));
            CHECK.refused(s + change + " not", x, UNKNOWN, t -> t.show(change, false));
        }
        due(s + "the only one", x.show(0, true), 0);
        TrackedLetters y = Check.ofChanges12();
        CHECK.refused(s + "12 of twelve", y, UNKNOWN, t -> t.show(12, true));
        due(s + "11 of twelve", y.show(11, true), 0);
        due(s + "11 of twelve is told", y.change(11, 3), 1);
        due(s + "10 is not", y.change(10, 3), 0);
    }

    private static void showTellsWhatWas() {
        String s = "8, 'whether it was (1, 0)': ";
        for (int state = 0; state < 3; state++) {
            TrackedLetters x = Check.begun("abc");
            x.remove(0, 0, 1);
            x.decide(0, state);
            due(s + "not at first, as " + state, x.show(0, false), 0);
            due(s + "not yet, as " + state, x.show(0, true), 0);
            due(s + "it was, as " + state, x.show(0, true), 1);
            due(s + "it was, as " + state, x.show(0, false), 1);
            due(s + "no more, as " + state, x.show(0, false), 0);
            due(s + "it is what it was", x.change(0, 2), state);
        }
    }

    private static void decideOfWhatIsThere() {
        String s = "9, 'UNKNOWN: change': ";
        TrackedLetters x = Check.begun("abc");
        CHECK.refused(s + "no CHANGE", x, UNKNOWN, t -> t.decide(0, 1));
        x.remove(0, 0, 1);
        for (int change : new int[] {-1, 1, 11, 12, 32, 64, MIN_VALUE, MIN_VALUE + 1, MAX_VALUE, MAX_VALUE - 1}) {
            CHECK.refused(s + change, x, UNKNOWN, t -> t.decide(change, 1));
        }
        due(s + "the only one", x.decide(0, 1), 0);
        TrackedLetters y = Check.ofChanges12();
        CHECK.refused(s + "12 of twelve", y, UNKNOWN, t -> t.decide(12, 1));
        due(s + "11 of twelve", y.decide(11, 2), 0);
        due(s + "OPEN ones", y.count(4), 11);
    }

    private static void decide0To2() {
        String s = "9, 'OUTSIDE: what': ";
        TrackedLetters x = Check.begun("abc");
        x.remove(0, 0, 1);
        for (int was = 0; was < 3; was++) {
            for (int what : new int[] {-1, 3, 4, MIN_VALUE, MIN_VALUE + 1, MAX_VALUE, MAX_VALUE - 1}) {
                CHECK.refused(s + what, x, OUTSIDE, t -> t.decide(0, what));
            }
            for (int what = 0; what < 3; what++) {
                x.decide(0, was);
                due(s + "from " + was + " to " + what, x.decide(0, what), was);
                due(s + "it is " + what, x.change(0, 2), what);
            }
        }
    }

    private static void decideTellsTheFirstRefusal() {
        String s = "9, change, ahead of what: ";
        TrackedLetters x = Check.begun("abc");
        x.remove(0, 0, 1);
        CHECK.refused(s + "1, 3", x, UNKNOWN, t -> t.decide(1, 3));
        CHECK.refused(s + "-1, -1", x, UNKNOWN, t -> t.decide(-1, -1));
        CHECK.refused(s + "MAX, MAX", x, UNKNOWN, t -> t.decide(MAX_VALUE, MAX_VALUE));
        CHECK.refused(s + "MIN, MIN", x, UNKNOWN, t -> t.decide(MIN_VALUE, MIN_VALUE));
    }

    // ---- settle

    private static void settleWithOneOpen() {
        String s = "10, 'STATE: some CHANGE is OPEN': ";
        for (int open = 0; open < 12; open++) {
            TrackedLetters x = Check.ofChanges12();
            for (int c = 0; c < 12; c++) {
                x.decide(c, c == open ? 0 : 1 + c % 2);
            }
            x.letter('p');
            CHECK.refused(s + open + " alone", x, STATE, t -> t.settle());
            due(s + "how often", x.count(8), 0);
            x.decide(open, 2);
            due(s + "no more", x.settle(), open % 2 == 0 ? 3 + 5 : 3 + 6);
            due(s + "how often then", x.count(8), 1);
        }
    }

    private static void settleWithNoneOpen() {
        String s = "10, none is OPEN: ";
        TrackedLetters x = Check.begun("abc");
        due(s + "no CHANGES", x.settle(), 3);
        due(s + "it counts", x.count(8), 1);
        CHECK.reads(s, x, 3, "abc");
        TrackedLetters y = Check.begun("abc");
        Check.insert(y, 0, 0, "xy");
        y.decide(0, 2);
        due(s + "REFUSED ones alone", y.settle(), 3);
        CHECK.row(s + "counts", Check.counts(y), 0, 3, 3, 0, 0, 0, 0, 1, 1);
        TrackedLetters z = Check.begun("abc");
        Check.insert(z, 0, 0, "xy");
        z.move(0, 0, 1, 5);
        z.decide(0, 1);
        z.decide(1, 1);
        due(s + "TAKEN ones alone", z.settle(), 5);
        CHECK.reads(s, z, 3, "yabcx");
        for (int i = 0; i < 5; i++) {
            CHECK.row(s + "LETTERS are numbered anew, " + i, Check.letterOf(z, 0, i), "yabcx".charAt(i), i, i, NONE, 0, 0);
            CHECK.row(s + "PLACES are theirs alone, " + i, Check.placeOf(z, i), i, NONE, NONE, 0);
        }
        due(s + "there are no CHANGES", z.change(0, 0), UNKNOWN);
        CHECK.row(s + "counts", Check.counts(z), 0, 5, 5, 0, 0, 0, 0, 1, 1);
    }

    private static void settleToNothing() {
        String s = "10, what READS is empty: ";
        TrackedLetters x = Check.begun("abc");
        x.remove(0, 0, 3);
        x.decide(0, 1);
        due(s + "LETTERS", x.settle(), 0);
        CHECK.row(s + "counts", Check.counts(x), 0, 0, 0, 0, 0, 0, 0, 1, 1);
        due(s + "PLACE 0", x.place(0, 0), UNKNOWN);
        due(s + "once more", x.settle(), 0);
        due(s + "insert at 0", Check.insert(x, 1, 0, "z"), 0);
        CHECK.reads(s, x, 3, "z");
    }

    private static void settleUpTo64Letters() {
        String s = "10, 'how many LETTERS there are': ";
        TrackedLetters x = Check.ofLetters64();
        x.decide(0, 1);
        due(s + "64", x.settle(), 64);
        CHECK.reads(s, x, 0, Check.FORTY + Check.FORTY.substring(0, 24));
        x.letter('z');
        CHECK.refused(s + "65 LETTERS of THE FIRST TEXT", x, FULL, t -> t.insert(0, 0));
        due(s + "remove of the last", x.remove(0, 63, 1), 0);
        CHECK.refused(s + "64 are kept", x, FULL, t -> t.insert(0, 0));
        x.decide(0, 1);
        due(s + "63", x.settle(), 63);
        due(s + "room for one", x.insert(0, 63), 0);
        due(s + "LETTERS", x.count(1), 64);
    }

    private static void settleLeavesRoomForAll() {
        String s = "10, all that was full: ";
        TrackedLetters x = Check.ofAllFull();
        for (int c = 0; c < 12; c++) {
            x.show(c, true);
            x.decide(c, 2);
        }
        due(s + "THE FIRST TEXT stays", x.settle(), 40);
        CHECK.reads(s, x, 4, Check.FORTY);
        CHECK.row(s + "counts", Check.counts(x), 0, 40, 40, 0, 0, 0, 0, 1, 1);
        due(s + "24 LETTERS more", Check.insert(x, 0, 40, Check.FORTY.substring(0, 24)), 0);
        CHECK.row(s + "OPEN, not SHOWN", Check.changeOf(x, 0), 0, 0, 0, 0, 24, 0, 0);
        due(s + "26 PLACES more", x.move(0, 0, 26, 64), 1);
        for (int c = 2; c < 12; c++) {
            due(s + "CHANGE " + c, x.remove(c % 4, c, 1), c);
        }
        CHECK.row(s + "counts", Check.counts(x), 0, 64, 90, 12, 12, 0, 0, 1, 1);
    }

    private static void settleKeepsThePage() {
        String s = "10, THE PAGE: ";
        TrackedLetters x = Check.begun("abc");
        Check.write(x, Check.FORTY);
        due(s + "settle", x.settle(), 3);
        due(s + "all signs are kept", x.count(0), 40);
        due(s + "insert of it", x.insert(0, 3), 0);
        CHECK.reads(s, x, 2, "abc" + Check.FORTY);
    }
}
