import static java.lang.Integer.MAX_VALUE;
import static java.lang.Integer.MIN_VALUE;

/** Promises 1 to 4, a test for each sentence that names a boundary: the case itself, and the last one on this side. */
public final class TextsBoundsTest {
    private static final int NONE = -1, UNKNOWN = -1001, OUTSIDE = -1002, STATE = -1003, FULL = -1004;
    private static final Check CHECK = new Check();

    public static void main(String[] args) {
        newObjectHasNoLetters();
        newObjectHasNothingToChange();
        codeIsAtLeast32();
        codeIsAtMost126();
        eachCodeIsKept();
        pageHasFortySignsAtMost();
        outsideIsToldAheadOfFull();
        pageHasRoomAgain();
        blankOfAnEmptyPage();
        blankOfAFullPage();
        blankTouchesThePageAlone();
        beginOfAnEmptyPage();
        beginOfOneSignAndOfForty();
        beginEndsAllThatWas();
        beginLeavesRoomForAll();
        beginLeavesThePageEmpty();
        CHECK.end("TextsBoundsTest");
    }

    private static void due(String call, long got, long want) {
        CHECK.due(call, got, want);
    }

    private static void newObjectHasNoLetters() {
        String s = "1, 'No LETTERS.': ";
        TrackedLetters x = new TrackedLetters();
        CHECK.row(s + "counts", Check.counts(x), 0, 0, 0, 0, 0, 0, 0, 0, 0);
        for (int view = 0; view < 6; view++) {
            due(s + "LENGTH of VIEW " + view, x.length(view), 0);
            due(s + "letter 0 of VIEW " + view, x.read(view, 0, 1), UNKNOWN);
        }
        due(s + "PLACE 0", x.place(0, 0), UNKNOWN);
        due(s + "CHANGE 0", x.change(0, 0), UNKNOWN);
        due(s + "SPANS", x.span(0, 0), 0);
        due(s + "SPAN 0", x.span(0, 1), UNKNOWN);
        due(s + "the empty PAGE is FOUND", x.found(0), 1);
        due(s + "by no CHANGE", x.found(1), 0);
        due(s + "signs to put aside", x.blank(), 0);
    }

    private static void newObjectHasNothingToChange() {
        String s = "1, a new object: ";
        TrackedLetters x = new TrackedLetters();
        CHECK.refused(s + "insert of nothing", x, STATE, t -> t.insert(0, 0));
        CHECK.refused(s + "insert at 1", x, UNKNOWN, t -> t.insert(0, 1));
        CHECK.refused(s + "remove", x, UNKNOWN, t -> t.remove(0, 0, 1));
        CHECK.refused(s + "move", x, UNKNOWN, t -> t.move(0, 0, 1, 0));
        CHECK.refused(s + "show", x, UNKNOWN, t -> t.show(0, true));
        CHECK.refused(s + "decide", x, UNKNOWN, t -> t.decide(0, 1));
        due(s + "settle", x.settle(), 0);
        due(s + "insert of one sign at LENGTH 0", Check.insert(x, 0, 0, "q"), 0);
        CHECK.reads(s, x, 2, "q");
        CHECK.reads(s, x, 0, "");
    }

    private static void codeIsAtLeast32() {
        String s = "2, 'OUTSIDE: code (32 to 126)': ";
        TrackedLetters x = new TrackedLetters();
        for (int code : new int[] {31, 30, 1, 0, -1, -32, -97, MIN_VALUE + 1, MIN_VALUE, MIN_VALUE + 97}) {
            CHECK.refused(s + code, x, OUTSIDE, t -> t.letter(code));
        }
        due(s + "no sign came", x.count(0), 0);
        due(s + 32, x.letter(32), 1);
    }

    private static void codeIsAtMost126() {
        String s = "2, 'OUTSIDE: code (32 to 126)': ";
        TrackedLetters x = new TrackedLetters();
        for (int code : new int[] {127, 128, 255, 256 + 97, 65536 + 97, MAX_VALUE - 1, MAX_VALUE}) {
            CHECK.refused(s + code, x, OUTSIDE, t -> t.letter(code));
        }
        due(s + "no sign came", x.count(0), 0);
        due(s + 126, x.letter(126), 1);
    }

    private static void eachCodeIsKept() {
        String s = "2, 'told by its code': ";
        for (int code = 32; code <= 126; code++) {
            TrackedLetters x = new TrackedLetters();
            due(s + code, x.letter(code), 1);
            x.begin();
            due(s + "read of " + code, x.read(0, 0, 0), code);
        }
    }

    private static void pageHasFortySignsAtMost() {
        String s = "2, 'FULL: above 40': ";
        TrackedLetters x = new TrackedLetters();
        for (int n = 1; n <= 40; n++) {
            due(s + "sign " + n, x.letter(Check.FORTY.charAt(n - 1)), n);
        }
        CHECK.refused(s + "sign 41", x, FULL, t -> t.letter('z'));
        CHECK.refused(s + "sign 41 again", x, FULL, t -> t.letter(32));
        due(s + "signs", x.count(0), 40);
        due(s + "LETTERS", x.begin(), 40);
        CHECK.reads(s, x, 0, Check.FORTY);
    }

    private static void outsideIsToldAheadOfFull() {
        String s = "2, OUTSIDE ahead of FULL: ";
        TrackedLetters x = new TrackedLetters();
        Check.write(x, Check.FORTY);
        for (int code : new int[] {31, 127, MIN_VALUE, MAX_VALUE}) {
            CHECK.refused(s + code, x, OUTSIDE, t -> t.letter(code));
        }
        CHECK.refused(s + 32, x, FULL, t -> t.letter(32));
        CHECK.refused(s + 126, x, FULL, t -> t.letter(126));
    }

    private static void pageHasRoomAgain() {
        String s = "2, a full PAGE that was emptied: ";
        TrackedLetters x = new TrackedLetters();
        Check.write(x, Check.FORTY);
        x.blank();
        due(s + "by blank()", x.letter('q'), 1);
        x.blank();
        Check.write(x, Check.FORTY);
        x.begin();
        due(s + "by begin()", x.letter('q'), 1);
        x.blank();
        x.begin();
        Check.write(x, Check.FORTY);
        due(s + "insert", x.insert(3, 0), 0);
        due(s + "by insert()", x.letter('q'), 1);
    }

    private static void blankOfAnEmptyPage() {
        String s = "3, 'how many signs it had', none: ";
        TrackedLetters x = new TrackedLetters();
        due(s + "a new one", x.blank(), 0);
        due(s + "once more", x.blank(), 0);
        x.letter('a');
        due(s + "one sign", x.blank(), 1);
        due(s + "none again", x.blank(), 0);
        x.letter('b');
        x.begin();
        due(s + "behind begin()", x.blank(), 0);
        x.letter('c');
        x.insert(0, 0);
        due(s + "behind insert()", x.blank(), 0);
    }

    private static void blankOfAFullPage() {
        String s = "3, 'how many signs it had', forty: ";
        TrackedLetters x = new TrackedLetters();
        Check.write(x, Check.FORTY);
        x.letter('z');
        due(s + "the refused one isn't counted", x.blank(), 40);
        due(s + "signs then", x.count(0), 0);
        Check.write(x, Check.FORTY.substring(0, 39));
        due(s + "thirty-nine", x.blank(), 39);
    }

    private static void blankTouchesThePageAlone() {
        String s = "3, 'THE PAGE is empty': ";
        TrackedLetters x = Check.begun("abc");
        Check.insert(x, 0, 1, "xy");
        x.remove(1, 0, 2);
        long before = x.digest();
        Check.write(x, "pq");
        due(s + "signs", x.blank(), 2);
        due(s + "all else as it was", x.digest(), before);
    }

    private static void beginOfAnEmptyPage() {
        String s = "4, 'an empty one, too': ";
        TrackedLetters x = new TrackedLetters();
        due(s + "of a new object", x.begin(), 0);
        due(s + "how often", x.count(7), 1);
        Check.write(x, "abc");
        x.begin();
        Check.insert(x, 0, 0, "x");
        due(s + "over a text with a CHANGE", x.begin(), 0);
        CHECK.row(s + "counts", Check.counts(x), 0, 0, 0, 0, 0, 0, 0, 3, 0);
        for (int view = 0; view < 6; view++) {
            CHECK.reads(s, x, view, "");
        }
        CHECK.refused(s + "no letter to remove", x, UNKNOWN, t -> t.remove(0, 0, 1));
        due(s + "SPANS", x.span(0, 0), 0);
    }

    private static void beginOfOneSignAndOfForty() {
        String s = "4, 'how many LETTERS': ";
        TrackedLetters x = new TrackedLetters();
        x.letter('a');
        due(s + "one", x.begin(), 1);
        CHECK.reads(s, x, 5, "a");
        Check.write(x, Check.FORTY);
        due(s + "forty", x.begin(), 40);
        CHECK.reads(s, x, 5, Check.FORTY);
        due(s + "LETTER 39", x.read(0, 39, 1), 39);
        due(s + "PLACE 39", x.place(39, 0), 39);
        due(s + "PLACE 40", x.place(40, 0), UNKNOWN);
    }

    private static void beginEndsAllThatWas() {
        String s = "4, 'all that was is gone, with all CHANGES': ";
        TrackedLetters x = Check.begun("abcd");
        Check.insert(x, 0, 1, "xy");
        x.move(0, 0, 3, 6);
        x.move(1, 0, 2, 4);
        x.remove(2, 0, 2);
        x.remove(3, 0, 2);
        for (int c = 0; c < 5; c++) {
            x.show(c, true);
            x.decide(c, c % 3);
        }
        Check.write(x, "abcd");
        due(s + "begin with OPEN ones", x.begin(), 4);
        TrackedLetters y = Check.begun("wxyz");
        Check.write(y, "abcd");
        y.begin();
        due(s + "as if it were the only text", x.digest(), y.digest());
        due(s + "CHANGE 0", x.change(0, 0), UNKNOWN);
        due(s + "show of what was", x.show(0, false), UNKNOWN);
        due(s + "decide of what was", x.decide(0, 0), UNKNOWN);
        x.move(3, 1, 2, 0);
        y.move(3, 1, 2, 0);
        due(s + "a new CHANGE, as if it were the first", x.digest(), y.digest());
        CHECK.row(s + "a new CHANGE", Check.changeOf(x, 0), 2, 3, 0, 0, 2, 0, 0);
        CHECK.row(s + "a new PLACE", Check.placeOf(x, 0), 1, 3, 0, 1);
    }

    private static void beginLeavesRoomForAll() {
        String s = "4, all that was full is gone: ";
        TrackedLetters x = Check.ofAllFull();
        CHECK.row(s + "full", Check.counts(x), 0, 64, 90, 12, 12, 0, 0, 1, 0);
        Check.write(x, Check.FORTY);
        due(s + "begin", x.begin(), 40);
        due(s + "24 LETTERS more", Check.insert(x, 0, 40, Check.FORTY.substring(0, 24)), 0);
        due(s + "26 PLACES more", x.move(0, 0, 26, 64), 1);
        for (int c = 2; c < 12; c++) {
            due(s + "CHANGE " + c, x.remove(c % 4, c, 1), c);
        }
        CHECK.row(s + "full again", Check.counts(x), 0, 64, 90, 12, 12, 0, 0, 2, 0);
    }

    private static void beginLeavesThePageEmpty() {
        String s = "4, 'THE PAGE is empty then': ";
        TrackedLetters x = Check.begun("ab");
        due(s + "signs", x.count(0), 0);
        CHECK.refused(s + "insert", x, STATE, t -> t.insert(0, 0));
        due(s + "the first sign of the next", x.letter('c'), 1);
        due(s + "begin", x.begin(), 1);
        CHECK.reads(s, x, 0, "c");
        CHECK.row(s + "its PLACE", Check.placeOf(x, 0), 0, NONE, NONE, 0);
    }
}
