import static java.lang.Integer.MAX_VALUE;
import static java.lang.Integer.MIN_VALUE;

/** Each promise by hand: ordinary inputs, the edges that the document names, wrong inputs. */
public final class PromisesTest {
    private static final int NONE = -1, UNKNOWN = -1001, OUTSIDE = -1002, STATE = -1003, FULL = -1004;
    private static final String FORTY = Check.FORTY;
    private static final Check CHECK = new Check();

    public static void main(String[] args) {
        newObject();
        letter();
        blank();
        begin();
        insertPuts();
        insertRefuses();
        insertFills();
        removeTakes();
        removeRefuses();
        moveLeads();
        moveRefuses();
        moveFills();
        show();
        decide();
        settle();
        settleSixtyFour();
        length();
        read();
        place();
        leastMoveLeads();
        changeTells();
        changeIdle();
        changeLeans();
        span();
        found();
        foundFewest();
        foundOfTwelve();
        count();
        torn();
        digest();
        refusalsChangeNothing();
        CHECK.end("PromisesTest");
    }

    private static void due(String call, long got, long want) {
        CHECK.due(call, got, want);
    }

    private static void newObject() {
        TrackedLetters x = new TrackedLetters();
        CHECK.row("1: counts of a new object", Check.counts(x), 0, 0, 0, 0, 0, 0, 0, 0, 0);
        for (int view = 0; view < 6; view++) {
            due("1: length(" + view + ") of a new object", x.length(view), 0);
            due("1: read(" + view + ", 0, 0) of a new object", x.read(view, 0, 0), UNKNOWN);
        }
        due("1: place(0, 0) of a new object", x.place(0, 0), UNKNOWN);
        due("1: change(0, 0) of a new object", x.change(0, 0), UNKNOWN);
        due("1: span(0, 0) of a new object", x.span(0, 0), 0);
        due("1: settle() of a new object", x.settle(), 0);
        due("1: insert into a new object", Check.insert(x, 2, 0, "ab"), 0);
        CHECK.reads("1: insert into a new object", x, 4, "ab");
        CHECK.reads("1: insert into a new object", x, 0, "");
    }

    private static void letter() {
        TrackedLetters x = new TrackedLetters();
        due("2: letter(31)", x.letter(31), OUTSIDE);
        due("2: letter(127)", x.letter(127), OUTSIDE);
        due("2: letter(-1)", x.letter(-1), OUTSIDE);
        due("2: letter(MIN)", x.letter(MIN_VALUE), OUTSIDE);
        due("2: letter(MAX)", x.letter(MAX_VALUE), OUTSIDE);
        due("2: letter(32)", x.letter(32), 1);
        due("2: letter(126)", x.letter(126), 2);
        for (int i = 3; i <= 40; i++) {
            due("2: letter " + i, x.letter(64 + i), i);
        }
        due("2: letter 41", x.letter(65), FULL);
        due("2: OUTSIDE ahead of FULL", x.letter(31), OUTSIDE);
        due("2: signs", x.count(0), 40);
        due("2: begin", x.begin(), 40);
        due("2: sign 0", x.read(0, 0, 0), 32);
        due("2: sign 1", x.read(0, 1, 0), 126);
        due("2: sign 39", x.read(0, 39, 0), 104);
    }

    private static void blank() {
        TrackedLetters x = new TrackedLetters();
        due("3: blank() of an empty PAGE", x.blank(), 0);
        Check.write(x, "abc");
        due("3: blank()", x.blank(), 3);
        due("3: signs then", x.count(0), 0);
        due("3: letter then", x.letter(100), 1);
        x.begin();
        CHECK.reads("3: the old signs are gone", x, 0, "d");
        Check.write(x, FORTY);
        due("3: blank() of a full PAGE", x.blank(), 40);
        due("3: letter behind it", x.letter(100), 1);
    }

    private static void begin() {
        TrackedLetters x = Check.begun("abc");
        due("4: signs after begin", x.count(0), 0);
        CHECK.reads("4: begin", x, 0, "abc");
        CHECK.reads("4: begin", x, 5, "abc");
        Check.insert(x, 0, 1, "xy");
        x.show(0, true);
        x.decide(0, 1);
        x.move(0, 0, 2, 4);
        x.remove(1, 0, 1);
        Check.write(x, "zz");
        due("4: begin over CHANGES", x.begin(), 2);
        CHECK.row("4: counts", Check.counts(x), 0, 2, 2, 0, 0, 0, 0, 2, 0);
        CHECK.row("4: place 0", Check.placeOf(x, 0), 0, NONE, NONE, 0);
        CHECK.row("4: place 1", Check.placeOf(x, 1), 1, NONE, NONE, 0);
        due("4: no CHANGE", x.change(0, 0), UNKNOWN);
        due("4: a new CHANGE", x.remove(3, 1, 1), 0);
        CHECK.row("4: a new CHANGE has nothing of the old one", Check.changeOf(x, 0), 1, 3, 0, 0, 1, 0, 0);
        due("4: begin with an empty PAGE", x.begin(), 0);
        CHECK.row("4: counts", Check.counts(x), 0, 0, 0, 0, 0, 0, 0, 3, 0);
    }

    private static void insertPuts() {
        TrackedLetters x = Check.begun("abc");
        due("5: insert at 0", Check.insert(x, 0, 0, "12"), 0);
        due("5: THE PAGE is empty then", x.count(0), 0);
        due("5: insert at LENGTH", Check.insert(x, 0, 5, "34"), 1);
        due("5: insert within", Check.insert(x, 0, 3, "5"), 2);
        CHECK.reads("5: own view", x, 2, "12a5bc34");
        CHECK.reads("5: whole view", x, 1, "12a5bc34");
        CHECK.reads("5: taken view", x, 0, "abc");
        CHECK.reads("5: another author", x, 3, "abc");
        due("5: by another, at what he sees", Check.insert(x, 1, 0, "6"), 3);
        CHECK.reads("5: right ahead of the first letter he sees", x, 1, "126a5bc34");
        due("5: by another, at LENGTH", Check.insert(x, 1, 4, "7"), 4);
        CHECK.reads("5: behind all PLACES", x, 1, "126a5bc347");
        due("5: LETTERS are numbered as they come", x.read(1, 9, 1), 3 + 7 - 1);
    }

    private static void insertRefuses() {
        TrackedLetters x = Check.begun("abc");
        due("5: STATE", x.insert(0, 0), STATE);
        due("5: author 4, ahead of STATE", x.insert(4, 0), UNKNOWN);
        due("5: author -1", x.insert(-1, 0), UNKNOWN);
        due("5: at -1, ahead of STATE", x.insert(0, -1), UNKNOWN);
        due("5: at LENGTH + 1, ahead of STATE", x.insert(0, 4), UNKNOWN);
        Check.write(x, "z");
        due("5: author MIN", x.insert(MIN_VALUE, 0), UNKNOWN);
        due("5: author MAX", x.insert(MAX_VALUE, 0), UNKNOWN);
        due("5: at MIN", x.insert(0, MIN_VALUE), UNKNOWN);
        due("5: at MAX", x.insert(0, MAX_VALUE), UNKNOWN);
        due("5: a refusal keeps THE PAGE", x.count(0), 1);
        due("5: author 3 at LENGTH", x.insert(3, 3), 0);
    }

    private static void insertFills() {
        TrackedLetters x = Check.begun(FORTY);
        due("5: 63 LETTERS", Check.insert(x, 0, 0, FORTY.substring(0, 23)), 0);
        due("5: 65 LETTERS", Check.insert(x, 0, 0, "zz"), FULL);
        due("5: at, ahead of FULL", x.insert(0, 64), UNKNOWN);
        x.blank();
        due("5: 64 LETTERS", Check.insert(x, 0, 63, "z"), 1);
        due("5: LETTERS of REFUSED ones stay kept", x.decide(0, 2), 0);
        due("5: 65 LETTERS", Check.insert(x, 0, 0, "z"), FULL);
        due("5: read of LETTER 63", x.read(2, 40, 1), 63);

        TrackedLetters y = Check.begun(FORTY);
        y.move(0, 0, 40, 40);
        due("5: 90 PLACES", Check.insert(y, 0, 0, "0123456789"), 1);
        due("5: PLACES", y.count(2), 90);
        due("5: 91 PLACES", Check.insert(y, 0, 0, "z"), FULL);
        due("5: THE PAGE stays", y.count(0), 1);

        TrackedLetters z = Check.begun("a");
        for (int i = 0; i < 12; i++) {
            due("5: CHANGE " + i, Check.insert(z, i % 4, 0, "z"), i);
        }
        due("5: 13 CHANGES", Check.insert(z, 0, 0, "z"), FULL);
        z.blank();
        due("5: STATE ahead of FULL", z.insert(0, 0), STATE);
    }

    private static void removeTakes() {
        TrackedLetters x = Check.begun("abcdef");
        due("6: remove from 0", x.remove(0, 0, 2), 0);
        CHECK.reads("6: own view", x, 2, "cdef");
        CHECK.reads("6: another one", x, 3, "abcdef");
        CHECK.reads("6: whole view", x, 1, "cdef");
        CHECK.reads("6: taken view", x, 0, "abcdef");
        due("6: remove by what he sees", x.remove(0, 1, 2), 1);
        CHECK.reads("6: own view", x, 2, "cf");
        due("6: remove up to LENGTH", x.remove(0, 1, 1), 2);
        due("6: remove all that he sees", x.remove(1, 0, 6), 3);
        CHECK.reads("6: nothing", x, 3, "");
        due("6: remove from nothing", x.remove(1, 0, 1), UNKNOWN);
        due("6: LETTERS and PLACES stay", x.count(2), 6);
    }

    private static void removeRefuses() {
        TrackedLetters x = Check.begun("abcdef");
        due("6: author -1", x.remove(-1, 0, 1), UNKNOWN);
        due("6: author 4", x.remove(4, 0, 1), UNKNOWN);
        due("6: from -1", x.remove(0, -1, 1), UNKNOWN);
        due("6: from LENGTH", x.remove(0, 6, 1), UNKNOWN);
        due("6: from LENGTH, ahead of n", x.remove(0, 6, 0), UNKNOWN);
        due("6: from MIN", x.remove(0, MIN_VALUE, 1), UNKNOWN);
        due("6: from MAX", x.remove(0, MAX_VALUE, 1), UNKNOWN);
        due("6: n 0", x.remove(0, 0, 0), OUTSIDE);
        due("6: n -1", x.remove(0, 1, -1), OUTSIDE);
        due("6: n MIN", x.remove(0, 1, MIN_VALUE), OUTSIDE);
        due("6: n too many", x.remove(0, 1, 6), OUTSIDE);
        due("6: n MAX", x.remove(0, 5, MAX_VALUE), OUTSIDE);
        for (int i = 0; i < 12; i++) {
            due("6: CHANGE " + i, x.remove(i % 4, 0, 1), i);
        }
        due("6: 13 CHANGES", x.remove(0, 0, 1), FULL);
        due("6: OUTSIDE ahead of FULL", x.remove(0, 0, 7), OUTSIDE);
    }

    private static void moveLeads() {
        TrackedLetters x = Check.begun("abcdef");
        due("7: move on", x.move(0, 1, 2, 5), 0);
        CHECK.reads("7: move on", x, 2, "adebcf");
        due("7: move back", x.move(0, 3, 2, 0), 1);
        CHECK.reads("7: move back", x, 2, "bcadef");
        due("7: move to LENGTH", x.move(0, 0, 1, 6), 2);
        CHECK.reads("7: move to LENGTH", x, 2, "cadefb");
        due("7: move to itself", x.move(0, 2, 2, 2), 3);
        due("7: move to behind itself", x.move(0, 2, 2, 4), 4);
        CHECK.reads("7: all in place", x, 2, "cadefb");
        due("7: PLACES", x.count(2), 6 + 2 + 2 + 1 + 2 + 2);
        due("7: LETTERS", x.count(1), 6);
        CHECK.reads("7: others see nothing of it", x, 3, "abcdef");
        due("7: another at LENGTH", x.move(1, 0, 1, 6), 5);
        due("7: behind all PLACES", x.read(3, 5, 2), 15);
        due("7: move of all", x.move(2, 0, 6, 0), 6);
        CHECK.reads("7: move of all", x, 4, "abcdef");
    }

    private static void moveRefuses() {
        TrackedLetters x = Check.begun("abcdef");
        due("7: author -1", x.move(-1, 0, 1, 0), UNKNOWN);
        due("7: author 4", x.move(4, 0, 1, 0), UNKNOWN);
        due("7: from -1", x.move(0, -1, 1, 0), UNKNOWN);
        due("7: from LENGTH, ahead of n", x.move(0, 6, 0, 0), UNKNOWN);
        due("7: n 0, ahead of to", x.move(0, 5, 0, 7), OUTSIDE);
        due("7: n 2 of 1", x.move(0, 5, 2, 0), OUTSIDE);
        due("7: n MAX", x.move(0, 5, MAX_VALUE, 0), OUTSIDE);
        due("7: n MIN", x.move(0, 5, MIN_VALUE, 0), OUTSIDE);
        due("7: to -1", x.move(0, 0, 1, -1), UNKNOWN);
        due("7: to LENGTH + 1", x.move(0, 0, 1, 7), UNKNOWN);
        due("7: to MAX", x.move(0, 0, 1, MAX_VALUE), UNKNOWN);
        due("7: to MIN", x.move(0, 0, 1, MIN_VALUE), UNKNOWN);
        due("7: one between, the first", x.move(0, 1, 3, 2), STATE);
        due("7: one between, the last", x.move(0, 1, 3, 3), STATE);
        due("7: none between: behind the last", x.move(0, 1, 3, 4), 0);
        due("7: none between: the first", x.move(0, 1, 3, 1), 1);
        due("7: none between of one letter", x.move(0, 1, 1, 2), 2);
    }

    private static void moveFills() {
        TrackedLetters x = Check.begun(FORTY);
        due("7: 80 PLACES", x.move(0, 0, 40, 0), 0);
        due("7: 91 PLACES", x.move(0, 0, 11, 40), FULL);
        due("7: STATE ahead of FULL", x.move(0, 0, 11, 5), STATE);
        due("7: 90 PLACES", x.move(0, 0, 10, 40), 1);
        due("7: 91 PLACES by one", x.move(0, 0, 1, 40), FULL);
        due("7: remove needs no PLACES", x.remove(0, 0, 1), 2);
        CHECK.reads("7: moved all", x, 2, FORTY.substring(11) + FORTY.substring(0, 10));

        TrackedLetters y = Check.begun("ab");
        for (int i = 0; i < 12; i++) {
            due("7: CHANGE " + i, y.move(0, 0, 1, 2), i);
            CHECK.reads("7: a chain of MOVES " + i, y, 2, i % 2 == 0 ? "ba" : "ab");
        }
        due("7: 13 CHANGES", y.move(0, 0, 1, 2), FULL);
        due("7: UNKNOWN ahead of FULL", y.move(0, 0, 1, 3), UNKNOWN);
    }

    private static void show() {
        TrackedLetters x = Check.begun("abc");
        due("8: no CHANGE", x.show(0, true), UNKNOWN);
        x.remove(0, 0, 1);
        due("8: show(1)", x.show(1, true), UNKNOWN);
        due("8: show(-1)", x.show(-1, true), UNKNOWN);
        due("8: show(MAX)", x.show(MAX_VALUE, true), UNKNOWN);
        due("8: show(MIN)", x.show(MIN_VALUE, true), UNKNOWN);
        due("8: not at first", x.show(0, false), 0);
        CHECK.reads("8: not shown", x, 3, "abc");
        due("8: shown now", x.show(0, true), 0);
        CHECK.reads("8: shown", x, 3, "bc");
        CHECK.reads("8: not taken", x, 0, "abc");
        due("8: shown still", x.show(0, true), 1);
        x.decide(0, 2);
        CHECK.reads("8: shown and refused", x, 3, "abc");
        due("8: of a refused one", x.show(0, false), 1);
        x.decide(0, 0);
        CHECK.reads("8: no more shown", x, 3, "abc");
        CHECK.reads("8: but his own", x, 2, "bc");
        due("8: told", x.change(0, 3), 0);
    }

    private static void decide() {
        TrackedLetters x = Check.begun("abc");
        due("9: no CHANGE", x.decide(0, 0), UNKNOWN);
        x.remove(0, 0, 1);
        due("9: decide(1, 0)", x.decide(1, 0), UNKNOWN);
        due("9: decide(-1, 3): UNKNOWN first", x.decide(-1, 3), UNKNOWN);
        due("9: what 3", x.decide(0, 3), OUTSIDE);
        due("9: what -1", x.decide(0, -1), OUTSIDE);
        due("9: what MAX", x.decide(0, MAX_VALUE), OUTSIDE);
        due("9: OPEN to TAKEN", x.decide(0, 1), 0);
        CHECK.reads("9: TAKEN", x, 0, "bc");
        CHECK.reads("9: TAKEN", x, 1, "bc");
        CHECK.reads("9: TAKEN", x, 5, "bc");
        due("9: TAKEN to REFUSED", x.decide(0, 2), 1);
        CHECK.reads("9: REFUSED", x, 0, "abc");
        CHECK.reads("9: REFUSED", x, 1, "abc");
        CHECK.reads("9: REFUSED", x, 2, "abc");
        due("9: REFUSED to OPEN", x.decide(0, 0), 2);
        CHECK.reads("9: OPEN again", x, 0, "abc");
        CHECK.reads("9: OPEN again", x, 1, "bc");
        CHECK.reads("9: OPEN again", x, 2, "bc");
        due("9: OPEN to OPEN", x.decide(0, 0), 0);
    }

    private static void settle() {
        TrackedLetters x = Check.begun("abcd");
        Check.insert(x, 0, 2, "xy");
        x.move(0, 0, 1, 6);
        x.remove(0, 0, 1);
        CHECK.reads("10: before", x, 2, "xycda");
        Check.write(x, "kept");
        due("10: some OPEN", x.settle(), STATE);
        x.decide(0, 1);
        x.decide(1, 1);
        due("10: one OPEN", x.settle(), STATE);
        x.decide(2, 2);
        due("10: none OPEN", x.settle(), 6);
        CHECK.reads("10: settled", x, 0, "bxycda");
        CHECK.reads("10: settled", x, 4, "bxycda");
        CHECK.row("10: counts", Check.counts(x), 4, 6, 6, 0, 0, 0, 0, 1, 1);
        for (int i = 0; i < 6; i++) {
            CHECK.row("10: place " + i, Check.placeOf(x, i), i, NONE, NONE, 0);
        }
        due("10: settled again", x.settle(), 6);
        due("10: how often", x.count(8), 2);
        due("10: CHANGES from 0", x.remove(1, 0, 6), 0);
        x.decide(0, 1);
        due("10: settled to nothing", x.settle(), 0);
        due("10: THE PAGE stays", x.insert(0, 0), 0);
        CHECK.reads("10: THE PAGE stays", x, 2, "kept");
    }

    private static void settleSixtyFour() {
        TrackedLetters x = Check.begun(FORTY);
        Check.insert(x, 0, 40, "0123456789012345678901234");
        x.blank();
        due("10: 24 more", Check.insert(x, 0, 40, "012345678901234567890123"), 0);
        x.decide(0, 1);
        due("10: 64 LETTERS", x.settle(), 64);
        CHECK.reads("10: 64 LETTERS", x, 0, FORTY + "012345678901234567890123");
        due("10: LETTER 63", x.read(0, 63, 1), 63);
        due("10: remove the last", x.remove(0, 63, 1), 0);
        due("10: it GOES", x.place(63, 3), 2);
        due("10: 26 PLACES more", x.move(0, 0, 26, 63), 1);
        x.decide(0, 1);
        x.decide(1, 1);
        due("10: 63 LETTERS", x.settle(), 63);
        due("10: one more", Check.insert(x, 0, 0, "z"), 0);
    }

    private static void length() {
        TrackedLetters x = Check.begun("abcd");
        due("11: length(-1)", x.length(-1), UNKNOWN);
        due("11: length(6)", x.length(6), UNKNOWN);
        due("11: length(MIN)", x.length(MIN_VALUE), UNKNOWN);
        due("11: length(MAX)", x.length(MAX_VALUE), UNKNOWN);
        Check.insert(x, 3, 0, "xyz");
        x.remove(2, 0, 1);
        x.remove(1, 0, 1);
        x.show(2, true);
        due("11: length(0)", x.length(0), 4);
        due("11: length(1)", x.length(1), 6);
        due("11: length(2)", x.length(2), 3);
        due("11: length(3)", x.length(3), 3);
        due("11: length(4)", x.length(4), 3);
        due("11: length(5)", x.length(5), 6);
        x.decide(0, 1);
        due("11: length(0) with a TAKEN one", x.length(0), 7);
        due("11: length(2) with a TAKEN one", x.length(2), 6);
    }

    private static void read() {
        TrackedLetters x = Check.begun("abcd");
        Check.insert(x, 0, 1, "X");
        x.move(0, 1, 2, 5);
        x.remove(1, 0, 2);
        x.remove(2, 0, 1);
        x.show(0, true);
        CHECK.reads("12: own view", x, 2, "acdXb");
        CHECK.row("12: first text", Check.letterOf(x, 2, 0), 'a', 0, 0, NONE, 2, 0);
        CHECK.row("12: not touched", Check.letterOf(x, 2, 1), 'c', 2, 3, NONE, 0, 0);
        CHECK.row("12: inserted and moved", Check.letterOf(x, 2, 3), 'X', 4, 5, 1, 0, 1);
        CHECK.row("12: moved and deleted", Check.letterOf(x, 2, 4), 'b', 1, 6, 1, 1, 1);
        CHECK.reads("12: another view", x, 5, "aXbcd");
        CHECK.row("12: inserted, not moved there", Check.letterOf(x, 5, 1), 'X', 4, 1, 0, 0, 1);
        x.decide(2, 1);
        x.decide(1, 2);
        CHECK.row("12: neither TAKEN nor REFUSED count", Check.letterOf(x, 1, 0), 'X', 4, 1, 0, 0, 0);
        due("12: view -1", x.read(-1, 0, 0), UNKNOWN);
        due("12: view 6 ahead of what", x.read(6, 0, 9), UNKNOWN);
        due("12: place -1", x.read(0, -1, 0), UNKNOWN);
        due("12: place LENGTH ahead of what", x.read(0, x.length(0), 9), UNKNOWN);
        due("12: place MAX", x.read(0, MAX_VALUE, 0), UNKNOWN);
        due("12: what 6", x.read(0, 0, 6), OUTSIDE);
        due("12: what -1", x.read(0, 0, -1), OUTSIDE);
        due("12: what MIN", x.read(0, 0, MIN_VALUE), OUTSIDE);
    }

    private static void place() {
        TrackedLetters x = Check.begun("abc");
        Check.insert(x, 0, 1, "X");
        x.move(0, 0, 2, 4);
        x.move(0, 2, 1, 0);
        x.remove(0, 2, 1);
        CHECK.reads("13: own view", x, 2, "abX");
        due("13: PLACES", x.count(2), 7);
        CHECK.row("13: place 0", Check.placeOf(x, 0), 0, NONE, NONE, 2);
        CHECK.row("13: place 1", Check.placeOf(x, 1), 3, NONE, 0, 3);
        CHECK.row("13: place 2, moved to twice", Check.placeOf(x, 2), 0, 5, 2, 1);
        CHECK.row("13: place 3", Check.placeOf(x, 3), 1, NONE, NONE, 0);
        CHECK.row("13: place 4", Check.placeOf(x, 4), 2, NONE, NONE, 2);
        CHECK.row("13: place 5, from one ahead", Check.placeOf(x, 5), 0, 0, 1, 3);
        CHECK.row("13: place 6", Check.placeOf(x, 6), 3, 1, 1, 1);
        due("13: place(7, 9): UNKNOWN first", x.place(7, 9), UNKNOWN);
        due("13: place(-1, 0)", x.place(-1, 0), UNKNOWN);
        due("13: place(MAX, 0)", x.place(MAX_VALUE, 0), UNKNOWN);
        due("13: place(0, 4)", x.place(0, 4), OUTSIDE);
        due("13: place(0, -1)", x.place(0, -1), OUTSIDE);
        x.decide(0, 1);
        x.decide(1, 1);
        CHECK.row("13: what GOES when more is TAKEN", Check.placeOf(x, 5), 0, 0, 1, 2);
        CHECK.row("13: what stays when it is TAKEN", Check.placeOf(x, 6), 3, 1, 1, 0);
    }

    private static void leastMoveLeads() {
        TrackedLetters x = Check.begun("abcd");
        x.move(0, 0, 1, 4);
        x.move(1, 0, 1, 2);
        x.move(1, 1, 1, 3);
        x.move(0, 3, 1, 1);
        CHECK.reads("13: author 0 leads on by his own", x, 2, "bacd");
        CHECK.reads("13: author 1 leads on by his own", x, 3, "bcad");
        CHECK.reads("13: of two from one PLACE the least leads", x, 1, "bacd");
        x.decide(0, 2);
        CHECK.reads("13: the least REFUSED: the other one leads", x, 1, "bcad");
        CHECK.reads("13: what leads on from it leads nowhere", x, 2, "abcd");
        x.decide(1, 2);
        CHECK.reads("13: none leads from where it came", x, 1, "abcd");
        x.decide(0, 0);
        CHECK.reads("13: opened again", x, 1, "bacd");
    }

    private static void changeTells() {
        TrackedLetters x = Check.begun("abcd");
        Check.insert(x, 3, 1, "XY");
        x.remove(2, 0, 3);
        x.move(1, 1, 2, 0);
        CHECK.row("14: an INSERT", Check.changeOf(x, 0), 0, 3, 0, 0, 2, 0, 0);
        CHECK.row("14: a DELETE", Check.changeOf(x, 1), 1, 2, 0, 0, 3, 0, 0);
        CHECK.row("14: a MOVE", Check.changeOf(x, 2), 2, 1, 0, 0, 2, 2, 0);
        x.show(1, true);
        x.decide(1, 2);
        CHECK.row("14: REFUSED and SHOWN", Check.changeOf(x, 1), 1, 2, 2, 1, 3, 0, 0);
        CHECK.row("14: a MOVE that counts", Check.changeOf(x, 2), 2, 1, 0, 0, 2, 0, 0);
        due("14: change(3, 9): UNKNOWN first", x.change(3, 9), UNKNOWN);
        due("14: change(-1, 0)", x.change(-1, 0), UNKNOWN);
        due("14: change(MIN, 0)", x.change(MIN_VALUE, 0), UNKNOWN);
        due("14: change(0, 7)", x.change(0, 7), OUTSIDE);
        due("14: change(0, -1)", x.change(0, -1), OUTSIDE);
    }

    private static void changeIdle() {
        TrackedLetters x = Check.begun("abcd");
        x.remove(0, 0, 2);
        x.remove(1, 1, 2);
        due("14: of b taken out twice, by the first", x.change(0, 5), 1);
        due("14: of b taken out twice, by the second", x.change(1, 5), 1);
        x.decide(1, 1);
        due("14: TAKEN counts too", x.change(0, 5), 1);
        x.decide(1, 2);
        due("14: REFUSED doesn't count", x.change(0, 5), 0);
        due("14: a REFUSED one as if it weren't", x.change(1, 5), 1);
        x.decide(1, 0);
        x.decide(0, 2);
        x.move(2, 1, 2, 4);
        x.move(3, 0, 2, 3);
        due("14: MOVE of what is taken out", x.change(2, 5), 2);
        due("14: MOVE of what is taken out, and of what is not", x.change(3, 5), 1);
        x.decide(1, 2);
        due("14: the least MOVE counts", x.change(2, 5), 0);
        due("14: the other one for a alone", x.change(3, 5), 1);
        Check.insert(x, 0, 0, "XYZ");
        x.remove(0, 1, 1);
        due("14: INSERT of what is taken out again", x.change(4, 5), 1);
        due("14: DELETE of what was inserted", x.change(5, 5), 0);
        x.decide(4, 2);
        due("14: DELETE of what is not there", x.change(5, 5), 1);
    }

    private static void changeLeans() {
        TrackedLetters x = Check.begun("abcd");
        Check.insert(x, 0, 1, "XY");
        Check.insert(x, 0, 2, "Z");
        x.remove(0, 0, 3);
        CHECK.reads("14: own view", x, 2, "Ybcd");
        x.move(0, 0, 2, 4);
        CHECK.reads("14: own view", x, 2, "cdYb");
        x.move(0, 1, 2, 0);
        x.remove(0, 0, 2);
        x.move(1, 0, 1, 2);
        CHECK.row("14: what an INSERT within an INSERT leans on", Check.changeOf(x, 1), 0, 0, 0, 0, 1, 1, 0);
        due("14: DELETE of two INSERTS", x.change(2, 6), 0b11);
        due("14: MOVE of an INSERT", x.change(3, 6), 0b1);
        due("14: MOVE of a MOVED one and of an INSERT", x.change(4, 6), 0b1001);
        due("14: DELETE leans on no MOVE", x.change(5, 6), 0b1);
        due("14: MOVE of THE FIRST TEXT", x.change(6, 6), 0);
        x.decide(0, 2);
        due("14: whatever they are", x.change(2, 6), 0b11);
    }

    private static void span() {
        TrackedLetters x = Check.begun("abcdef");
        due("15: one SPAN", x.span(0, 0), 1);
        CHECK.row("15: one SPAN", Check.spanOf(x, 0), 0, 6, 0);
        x.remove(0, 1, 2);
        Check.insert(x, 1, 5, "XY");
        due("15: SPANS", x.span(MAX_VALUE, 0), 5);
        CHECK.row("15: span 0", Check.spanOf(x, 0), 0, 1, 0);
        CHECK.row("15: span 1 GOES", Check.spanOf(x, 1), 2, 2, 1);
        CHECK.row("15: span 2", Check.spanOf(x, 2), 0, 2, 3);
        CHECK.row("15: span 3 COMES", Check.spanOf(x, 3), 1, 2, 5);
        CHECK.row("15: span 4", Check.spanOf(x, 4), 0, 1, 7);
        x.decide(0, 1);
        due("15: SPANS, those of MARK 3 passed over", x.span(-1, 0), 3);
        CHECK.row("15: span 0 over MARK 3", Check.spanOf(x, 0), 0, 3, 0);
        CHECK.row("15: span 1", Check.spanOf(x, 1), 1, 2, 5);
        x.remove(2, 0, 1);
        due("15: GOES next to what stays", x.span(0, 0), 4);
        CHECK.row("15: first behind MARK 3", Check.spanOf(x, 1), 0, 2, 3);
        due("15: which at the end", x.span(4, 1), UNKNOWN);
        due("15: which -1", x.span(-1, 3), UNKNOWN);
        due("15: which MAX", x.span(MAX_VALUE, 2), UNKNOWN);
        due("15: what 4, ahead of which", x.span(-1, 4), OUTSIDE);
        due("15: what -1", x.span(0, -1), OUTSIDE);
    }

    private static void found() {
        TrackedLetters x = Check.begun("aa");
        due("16: what 2", x.found(2), OUTSIDE);
        due("16: what -1", x.found(-1), OUTSIDE);
        due("16: not the empty PAGE", x.found(0), 0);
        due("16: not the empty PAGE", x.found(1), NONE);
        x.remove(0, 0, 1);
        x.remove(1, 1, 1);
        Check.insert(x, 2, 0, "a");
        x.remove(3, 0, 2);
        x.letter('a');
        due("16: a by 0, 1, and by 3 with 2 and any of 0 and 1, and by 2 with both", x.found(0), 2 + 1 + 4);
        due("16: fewest, then least sum", x.found(1), 0b1);
        x.decide(0, 2);
        due("16: a REFUSED one is in no set", x.found(0), 1 + 2);
        due("16: fewest", x.found(1), 0b10);
        x.decide(1, 1);
        due("16: a TAKEN one is in each set", x.found(0), 2);
        due("16: and not told", x.found(1), 0);
        x.blank();
        due("16: an empty PAGE", x.found(0), 1);
        due("16: an empty PAGE", x.found(1), 0b1000);
    }

    private static void foundFewest() {
        TrackedLetters x = Check.begun("a");
        Check.insert(x, 0, 1, "b");
        Check.insert(x, 0, 2, "c");
        Check.insert(x, 1, 1, "bc");
        Check.insert(x, 2, 1, "bc");
        Check.write(x, "abc");
        due("16: by 0 with 1, by 2, by 3", x.found(0), 3);
        due("16: fewest ahead of least sum", x.found(1), 0b100);
        x.decide(2, 2);
        due("16: fewest, the last of all", x.found(1), 0b1000);
    }

    private static void foundOfTwelve() {
        TrackedLetters x = Check.begun("ab");
        for (int i = 0; i < 6; i++) {
            x.move(i % 4, 0, 2, 2);
        }
        for (int i = 0; i < 6; i++) {
            x.remove(i % 4, 1, 1);
            x.decide(6 + i, 2);
        }
        for (int i = 6; i < 12; i++) {
            x.decide(i, 0);
        }
        due("16: twelve OPEN ones", x.count(4), 12);
        Check.write(x, "a");
        due("16: any MOVES, one DELETE at least", x.found(0), 64 * 63);
        due("16: the least DELETE", x.found(1), 1 << 6);
        x.blank();
        Check.write(x, "ab");
        due("16: any MOVES, no DELETE", x.found(0), 64);
        due("16: none at all", x.found(1), 0);
        x.blank();
        Check.write(x, "ba");
        due("16: none", x.found(0), 0);
        due("16: none", x.found(1), NONE);
    }

    private static void count() {
        TrackedLetters x = Check.begun("abcd");
        due("17: what 9", x.count(9), OUTSIDE);
        due("17: what -1", x.count(-1), OUTSIDE);
        due("17: what MIN", x.count(MIN_VALUE), OUTSIDE);
        due("17: what MAX", x.count(MAX_VALUE), OUTSIDE);
        Check.insert(x, 0, 0, "xyz");
        x.move(0, 0, 2, 7);
        x.remove(0, 0, 1);
        x.remove(1, 0, 1);
        x.decide(2, 1);
        x.decide(3, 2);
        Check.write(x, "hi");
        CHECK.row("17: counts", Check.counts(x), 2, 7, 9, 4, 2, 1, 0, 1, 0);
        x.begin();
        x.settle();
        x.settle();
        x.begin();
        CHECK.row("17: both ever", Check.counts(x), 0, 0, 0, 0, 0, 0, 0, 3, 2);
    }

    private static void torn() {
        TrackedLetters x = Check.begun("abcd");
        x.move(0, 0, 2, 4);
        x.move(1, 1, 2, 4);
        due("17: b is MOVED twice from one PLACE", x.count(6), 1);
        x.remove(2, 1, 2);
        due("17: MOVED and DELETED is not TORN", x.count(6), 1);
        x.remove(3, 1, 2);
        due("17: b and c are TORN", x.count(6), 2);
        x.decide(0, 1);
        due("17: of MOVES one is TAKEN", x.count(6), 2);
        x.decide(2, 2);
        due("17: of DELETES one is REFUSED, too", x.count(6), 0);
        x.decide(0, 0);
        due("17: opened again", x.count(6), 1);
        x.move(0, 3, 1, 0);
        due("17: a MOVE on from there doesn't tear", x.count(6), 1);
        x.move(2, 1, 1, 0);
        due("17: a third one from one PLACE", x.count(6), 1);
        tornBothWays();
        tornByMany();
        tornNoMore();
    }

    private static void tornBothWays() {
        TrackedLetters x = Check.begun("abcd");
        x.move(0, 1, 1, 4);
        x.move(1, 1, 1, 4);
        x.remove(2, 1, 1);
        x.remove(3, 1, 1);
        due("17: MOVED twice and DELETED twice is TORN once", x.count(6), 1);
    }

    private static void tornByMany() {
        TrackedLetters x = Check.begun("abcd");
        x.remove(0, 0, 2);
        x.remove(1, 0, 1);
        x.remove(2, 1, 1);
        x.remove(3, 3, 1);
        due("17: a by 0 and 1, b by 0 and 2, d by 3 alone", x.count(6), 2);
        TrackedLetters y = Check.begun("abcd");
        y.move(0, 0, 2, 4);
        y.move(1, 0, 1, 4);
        y.move(2, 1, 1, 4);
        y.move(3, 3, 1, 0);
        due("17: a by 0 and 1, b by 0 and 2, d by 3 alone", y.count(6), 2);
    }

    private static void tornNoMore() {
        TrackedLetters x = Check.begun("abc");
        x.move(0, 1, 2, 0);
        x.move(1, 1, 2, 0);
        due("17: b and c", x.count(6), 2);
        for (int n = 1; n < 7; n++) {
            Check.write(x, "abcdef".substring(0, n));
            x.begin();
            x.remove(0, 0, 1);
            Check.insert(x, 1, 0, "z");
            due("17: begin() leaves nothing TORN, with " + n, x.count(6), 0);
            x.begin();
            Check.write(x, "abc");
            x.begin();
            x.move(0, 1, 2, 0);
            x.move(1, 1, 2, 0);
        }
    }

    private static void digest() {
        TrackedLetters x = new TrackedLetters();
        long h = 1619L;
        for (int i = 0; i < 6; i++) {
            h = 31 * h;
        }
        h = 31 * h;
        h = 31 * h + 1;
        h = 31 * h;
        for (int i = 0; i < 9; i++) {
            h = 31 * h;
        }
        due("18: of a new object", x.digest(), h);
        due("18: changes nothing", x.digest(), h);
        Check.write(x, "abc");
        x.begin();
        Check.insert(x, 1, 2, "xy");
        x.move(0, 0, 1, 3);
        x.remove(2, 0, 1);
        Check.write(x, "bcxy");
        due("18: as told", x.digest(), toldDigest(x));
        x.decide(0, 1);
        x.show(1, true);
        due("18: as told", x.digest(), toldDigest(x));
    }

    /** What digest() is due to be by the other calls. */
    static long toldDigest(TrackedLetters x) {
        long[] h = {1619L};
        for (int view = 0; view < 6; view++) {
            int n = x.length(view);
            add(h, n);
            for (int i = 0; i < n; i++) {
                add(h, Check.letterOf(x, view, i));
            }
        }
        for (int p = 0; p < x.count(2); p++) {
            add(h, Check.placeOf(x, p));
        }
        for (int c = 0; c < x.count(3); c++) {
            add(h, Check.changeOf(x, c));
        }
        add(h, x.span(0, 0));
        for (int s = 0; s < x.span(0, 0); s++) {
            add(h, Check.spanOf(x, s));
        }
        add(h, x.found(0), x.found(1));
        int[] counts = Check.counts(x);
        // No call tells the signs of THE PAGE, so the test knows them.
        for (char sign : "bcxy".toCharArray()) {
            add(h, sign);
        }
        add(h, counts);
        return h[0];
    }

    private static void add(long[] h, int... numbers) {
        for (int number : numbers) {
            h[0] = 31 * h[0] + number;
        }
    }

    private static void refusalsChangeNothing() {
        TrackedLetters x = Check.begun("abcd");
        Check.insert(x, 0, 1, "XY");
        x.move(0, 0, 2, 4);
        Check.write(x, "p");
        long before = x.digest();
        x.letter(31);
        x.insert(4, 0);
        x.insert(0, 9);
        x.remove(0, 0, 9);
        x.remove(0, 9, 1);
        x.move(0, 0, 3, 1);
        x.move(0, 0, 9, 0);
        x.move(0, 0, 1, 9);
        x.show(2, true);
        x.decide(2, 1);
        x.decide(0, 3);
        x.settle();
        x.length(6);
        x.read(0, 9, 0);
        x.place(99, 0);
        x.change(9, 0);
        x.span(9, 1);
        x.found(3);
        x.count(10);
        due("refusals change nothing", x.digest(), before);
    }
}
