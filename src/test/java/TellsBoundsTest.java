import static java.lang.Integer.MAX_VALUE;
import static java.lang.Integer.MIN_VALUE;

import java.math.BigInteger;

/** Promises 11 to 18, a test for each sentence that names a boundary: the case itself, and the last one on this side. */
public final class TellsBoundsTest {
    private static final int NONE = -1, UNKNOWN = -1001, OUTSIDE = -1002;
    private static final int[] NO_NUMBERS = {-1, -2, -1001, 90, 91, 127, 256, 65536, MIN_VALUE, MIN_VALUE + 1, MAX_VALUE, MAX_VALUE - 1};
    private static final Check CHECK = new Check();

    public static void main(String[] args) {
        lengthOfViews0To5();
        lengthFrom0To64();
        readOfViews0To5();
        readOfLetters0ToTheLast();
        readOfWhat0To5();
        readTellsTheFirstRefusal();
        readTellsNoneForTheFirstText();
        readCountsOpenOnes();
        placeOf0ToTheLast();
        placeOfWhat0To3();
        placeTellsTheFirstRefusal();
        placeTellsNoneWhereItCame();
        changeOf0ToTheLast();
        changeOfWhat0To6();
        changeTellsTheFirstRefusal();
        changeTouchesOneAndAll();
        spanOf0ToTheLast();
        spanOfWhat0To3();
        spanLooksAtWhatFirst();
        spanDoesNotLookAtWhichFor0();
        spanOfNone();
        spanOfMany();
        foundOfWhat0And1();
        foundTellsNone();
        foundTellsTheEmptySet();
        foundOfAllAndOfOne();
        foundOfAllPlaces();
        countOfWhat0To8();
        countOfWhatIsOpenOrTaken();
        countEver();
        digestWraps();
        digestTakesEachNumber();
        CHECK.end("TellsBoundsTest");
    }

    private static void due(String call, long got, long want) {
        CHECK.due(call, got, want);
    }

    // ---- length

    private static void lengthOfViews0To5() {
        String s = "11, 'a VIEW (0 to 5). UNKNOWN': ";
        TrackedLetters x = Check.begun("abc");
        for (int view : new int[] {6, 7, 8}) {
            CHECK.refused(s + view, x, UNKNOWN, t -> t.length(view));
        }
        for (int view : NO_NUMBERS) {
            CHECK.refused(s + view, x, UNKNOWN, t -> t.length(view));
        }
        for (int view = 0; view < 6; view++) {
            due(s + view, x.length(view), 3);
        }
    }

    private static void lengthFrom0To64() {
        String s = "11, LENGTH: ";
        TrackedLetters x = Check.ofLetters64();
        due(s + "VIEW 0", x.length(0), 40);
        due(s + "VIEW 1", x.length(1), 64);
        due(s + "his own VIEW", x.length(2), 64);
        due(s + "another one", x.length(5), 40);
        x.remove(3, 0, 40);
        due(s + "of nothing", x.length(5), 0);
        due(s + "VIEW 1", x.length(1), 24);
    }

    // ---- read

    private static void readOfViews0To5() {
        String s = "12, 'UNKNOWN: view': ";
        TrackedLetters x = Check.begun("abc");
        CHECK.refused(s + 6, x, UNKNOWN, t -> t.read(6, 0, 0));
        for (int view : NO_NUMBERS) {
            CHECK.refused(s + view, x, UNKNOWN, t -> t.read(view, 0, 0));
        }
        for (int view = 0; view < 6; view++) {
            due(s + view, x.read(view, 0, 0), 'a');
        }
    }

    private static void readOfLetters0ToTheLast() {
        String s = "12, 'UNKNOWN: place': ";
        TrackedLetters x = Check.begun("abc");
        Check.insert(x, 0, 3, "de");
        x.remove(1, 0, 3);
        int[] lengths = {3, 2, 5, 0, 3, 3};
        for (int view = 0; view < 6; view++) {
            int of = view;
            int length = lengths[view];
            CHECK.refused(s + length + " of VIEW " + of, x, UNKNOWN, t -> t.read(of, length, 0));
            for (int place : NO_NUMBERS) {
                CHECK.refused(s + place + " of VIEW " + of, x, UNKNOWN, t -> t.read(of, place, 0));
            }
        }
        due(s + "the last of VIEW 0", x.read(0, 2, 0), 'c');
        due(s + "the last of VIEW 1", x.read(1, 1, 0), 'e');
        due(s + "the last of VIEW 2", x.read(2, 4, 0), 'e');
        due(s + "the first of VIEW 5", x.read(5, 0, 0), 'a');
        TrackedLetters y = Check.ofLetters64();
        due(s + "63 of 64", y.read(1, 63, 1), 63);
        CHECK.refused(s + "64 of 64", y, UNKNOWN, t -> t.read(1, 64, 1));
    }

    private static void readOfWhat0To5() {
        String s = "12, 'OUTSIDE: what': ";
        TrackedLetters x = Check.begun("abc");
        for (int what : new int[] {6, 7, 8}) {
            CHECK.refused(s + what, x, OUTSIDE, t -> t.read(0, 0, what));
        }
        for (int what : NO_NUMBERS) {
            CHECK.refused(s + what, x, OUTSIDE, t -> t.read(0, 0, what));
        }
        CHECK.row(s + "0 to 5", Check.letterOf(x, 0, 2), 'c', 2, 2, NONE, 0, 0);
    }

    private static void readTellsTheFirstRefusal() {
        String s = "12, 'of several the first': ";
        TrackedLetters x = Check.begun("abc");
        due(s + "view, ahead of what", x.read(6, 0, 6), UNKNOWN);
        due(s + "view and place, ahead of what", x.read(-1, -1, -1), UNKNOWN);
        due(s + "place, ahead of what", x.read(0, 3, 6), UNKNOWN);
        due(s + "place MIN, ahead of what", x.read(5, MIN_VALUE, MIN_VALUE), UNKNOWN);
        due(s + "place MAX, ahead of what", x.read(5, MAX_VALUE, MAX_VALUE), UNKNOWN);
        due(s + "what", x.read(5, 2, MAX_VALUE), OUTSIDE);
    }

    private static void readTellsNoneForTheFirstText() {
        String s = "12, 'the MOVE, or, where it came, its INSERT; NONE: it is of THE FIRST TEXT': ";
        TrackedLetters x = Check.begun("a");
        Check.insert(x, 0, 1, "z");
        due(s + "THE FIRST TEXT", x.read(1, 0, 3), NONE);
        due(s + "the INSERT", x.read(1, 1, 3), 0);
        x.move(0, 0, 1, 2);
        x.move(0, 0, 1, 2);
        CHECK.reads(s, x, 1, "az");
        due(s + "the MOVE of THE FIRST TEXT", x.read(1, 0, 3), 1);
        due(s + "the MOVE of what was INSERTED", x.read(1, 1, 3), 2);
        x.decide(2, 2);
        CHECK.reads(s, x, 1, "za");
        due(s + "the INSERT again", x.read(1, 0, 3), 0);
        x.decide(1, 2);
        due(s + "THE FIRST TEXT again", x.read(1, 0, 3), NONE);
    }

    private static void readCountsOpenOnes() {
        String s = "12, 'how many CHANGES that are OPEN': ";
        TrackedLetters x = Check.begun("ab");
        for (int c = 0; c < 12; c++) {
            due(s + "CHANGE " + c, c % 2 == 0 ? x.remove(c % 4, 0, 1) : x.move(c % 4, 0, 1, 2), c);
            x.decide(c, 2);
        }
        CHECK.reads(s, x, 0, "ab");
        due(s + "DELETED a, all REFUSED", x.read(0, 0, 4), 0);
        due(s + "MOVED a, all REFUSED", x.read(0, 0, 5), 0);
        for (int c = 0; c < 12; c++) {
            x.decide(c, 0);
            due(s + "DELETED a, up to " + c, x.read(0, 0, 4), c / 2 + 1);
            due(s + "MOVED a, up to " + c, x.read(0, 0, 5), (c + 1) / 2);
        }
        due(s + "DELETED a, all OPEN", x.read(0, 0, 4), 6);
        due(s + "MOVED a, all OPEN", x.read(0, 0, 5), 6);
        due(s + "DELETED b", x.read(0, 1, 4), 0);
        due(s + "MOVED b", x.read(0, 1, 5), 0);
    }

    // ---- place

    private static void placeOf0ToTheLast() {
        String s = "13, 'UNKNOWN: place': ";
        TrackedLetters x = Check.begun("abc");
        CHECK.refused(s + "3 of 3", x, UNKNOWN, t -> t.place(3, 0));
        for (int place : NO_NUMBERS) {
            CHECK.refused(s + place, x, UNKNOWN, t -> t.place(place, 0));
        }
        due(s + "2 of 3", x.place(2, 0), 2);
        x.move(0, 0, 1, 3);
        due(s + "3 of 4", x.place(3, 0), 0);
        CHECK.refused(s + "4 of 4", x, UNKNOWN, t -> t.place(4, 0));
        TrackedLetters y = Check.ofPlaces90();
        due(s + "89 of 90", y.place(89, 0), 39);
        CHECK.refused(s + "90 of 90", y, UNKNOWN, t -> t.place(90, 0));
    }

    private static void placeOfWhat0To3() {
        String s = "13, 'OUTSIDE: what': ";
        TrackedLetters x = Check.begun("abc");
        for (int what : new int[] {4, 5, 6}) {
            CHECK.refused(s + what, x, OUTSIDE, t -> t.place(2, what));
        }
        for (int what : NO_NUMBERS) {
            CHECK.refused(s + what, x, OUTSIDE, t -> t.place(2, what));
        }
        CHECK.row(s + "0 to 3", Check.placeOf(x, 2), 2, NONE, NONE, 0);
    }

    private static void placeTellsTheFirstRefusal() {
        String s = "13, place, ahead of what: ";
        TrackedLetters x = Check.begun("abc");
        due(s + "3, 4", x.place(3, 4), UNKNOWN);
        due(s + "-1, -1", x.place(-1, -1), UNKNOWN);
        due(s + "MIN, MAX", x.place(MIN_VALUE, MAX_VALUE), UNKNOWN);
        due(s + "2, 4", x.place(2, 4), OUTSIDE);
    }

    private static void placeTellsNoneWhereItCame() {
        String s = "13, 'NONE: the LETTER came there': ";
        TrackedLetters x = Check.begun("ab");
        Check.insert(x, 0, 2, "z");
        x.move(0, 0, 1, 3);
        x.move(0, 1, 1, 0);
        CHECK.reads(s, x, 2, "zba");
        CHECK.row(s + "THE FIRST TEXT", Check.placeOf(x, 0), 0, NONE, NONE, 2);
        CHECK.row(s + "a MOVE ahead of where it came", Check.placeOf(x, 1), 2, 3, 2, 1);
        CHECK.row(s + "not moved", Check.placeOf(x, 2), 1, NONE, NONE, 0);
        CHECK.row(s + "an INSERT", Check.placeOf(x, 3), 2, NONE, 0, 3);
        CHECK.row(s + "from PLACE 0", Check.placeOf(x, 4), 0, 0, 1, 1);
    }

    // ---- change

    private static void changeOf0ToTheLast() {
        String s = "14, 'UNKNOWN: change': ";
        TrackedLetters x = Check.begun("abc");
        CHECK.refused(s + "0 of none", x, UNKNOWN, t -> t.change(0, 0));
        x.remove(3, 0, 1);
        CHECK.refused(s + "1 of 1", x, UNKNOWN, t -> t.change(1, 0));
        for (int change : NO_NUMBERS) {
            CHECK.refused(s + change, x, UNKNOWN, t -> t.change(change, 0));
        }
        due(s + "0 of 1", x.change(0, 0), 1);
        TrackedLetters y = Check.ofChanges12();
        due(s + "11 of 12", y.change(11, 1), 3);
        CHECK.refused(s + "12 of 12", y, UNKNOWN, t -> t.change(12, 0));
    }

    private static void changeOfWhat0To6() {
        String s = "14, 'OUTSIDE: what': ";
        TrackedLetters x = Check.begun("abc");
        x.remove(3, 0, 1);
        for (int what : new int[] {7, 8, 9}) {
            CHECK.refused(s + what, x, OUTSIDE, t -> t.change(0, what));
        }
        for (int what : NO_NUMBERS) {
            CHECK.refused(s + what, x, OUTSIDE, t -> t.change(0, what));
        }
        CHECK.row(s + "0 to 6", Check.changeOf(x, 0), 1, 3, 0, 0, 1, 0, 0);
    }

    private static void changeTellsTheFirstRefusal() {
        String s = "14, change, ahead of what: ";
        TrackedLetters x = Check.begun("abc");
        due(s + "0 of none, 7", x.change(0, 7), UNKNOWN);
        x.remove(0, 0, 1);
        due(s + "1, 7", x.change(1, 7), UNKNOWN);
        due(s + "-1, -1", x.change(-1, -1), UNKNOWN);
        due(s + "MAX, MIN", x.change(MAX_VALUE, MIN_VALUE), UNKNOWN);
        due(s + "0, 7", x.change(0, 7), OUTSIDE);
    }

    private static void changeTouchesOneAndAll() {
        String s = "14, 'how many LETTERS are TOUCHED': ";
        TrackedLetters x = Check.begun(Check.FORTY.substring(0, 24));
        Check.insert(x, 0, 0, Check.FORTY);
        x.remove(0, 0, 64);
        x.move(1, 0, 24, 0);
        x.move(1, 0, 1, 24);
        x.remove(1, 23, 1);
        due(s + "forty INSERTED", x.change(0, 4), 40);
        due(s + "sixty-four DELETED", x.change(1, 4), 64);
        due(s + "24 MOVED", x.change(2, 4), 24);
        due(s + "one MOVED", x.change(3, 4), 1);
        due(s + "one DELETED", x.change(4, 4), 1);
        due(s + "forty IDLE: DELETED again", x.change(0, 5), 40);
        due(s + "one IDLE of 64: DELETED twice", x.change(1, 5), 1);
        due(s + "all IDLE: MOVED and DELETED", x.change(2, 5), 24);
    }

    // ---- span

    private static TrackedLetters ofThreeSpans() {
        TrackedLetters x = Check.begun("abc");
        x.remove(0, 1, 1);
        return x;
    }

    private static void spanOf0ToTheLast() {
        String s = "15, 'UNKNOWN: which': ";
        TrackedLetters x = ofThreeSpans();
        for (int what = 1; what < 4; what++) {
            int of = what;
            CHECK.refused(s + "3 of 3", x, UNKNOWN, t -> t.span(3, of));
            for (int which : NO_NUMBERS) {
                CHECK.refused(s + which, x, UNKNOWN, t -> t.span(which, of));
            }
        }
        CHECK.row(s + "0 of 3", Check.spanOf(x, 0), 0, 1, 0);
        CHECK.row(s + "1 of 3", Check.spanOf(x, 1), 2, 1, 1);
        CHECK.row(s + "2 of 3", Check.spanOf(x, 2), 0, 1, 2);
    }

    private static void spanOfWhat0To3() {
        String s = "15, 'OUTSIDE: what': ";
        TrackedLetters x = ofThreeSpans();
        for (int what : new int[] {4, 5, 6}) {
            CHECK.refused(s + what, x, OUTSIDE, t -> t.span(0, what));
        }
        for (int what : NO_NUMBERS) {
            CHECK.refused(s + what, x, OUTSIDE, t -> t.span(0, what));
        }
        due(s + 0, x.span(0, 0), 3);
        due(s + 3, x.span(2, 3), 2);
    }

    private static void spanLooksAtWhatFirst() {
        String s = "15, what '(ahead of that)': ";
        TrackedLetters x = ofThreeSpans();
        due(s + "3, 4", x.span(3, 4), OUTSIDE);
        due(s + "-1, -1", x.span(-1, -1), OUTSIDE);
        due(s + "MAX, MAX", x.span(MAX_VALUE, MAX_VALUE), OUTSIDE);
        due(s + "MIN, MIN", x.span(MIN_VALUE, MIN_VALUE), OUTSIDE);
        due(s + "of none", new TrackedLetters().span(0, 4), OUTSIDE);
        due(s + "3, 3", x.span(3, 3), UNKNOWN);
    }

    private static void spanDoesNotLookAtWhichFor0() {
        String s = "15, which '(not looked at for 0)': ";
        TrackedLetters x = ofThreeSpans();
        due(s + 3, x.span(3, 0), 3);
        for (int which : NO_NUMBERS) {
            due(s + which, x.span(which, 0), 3);
            due(s + which + " of none", new TrackedLetters().span(which, 0), 0);
        }
    }

    private static void spanOfNone() {
        String s = "15, no SPANS: ";
        TrackedLetters x = Check.begun("abc");
        x.remove(0, 0, 3);
        due(s + "one that GOES", x.span(0, 0), 1);
        x.decide(0, 1);
        due(s + "all PLACES are of MARK 3", x.span(0, 0), 0);
        for (int what = 1; what < 4; what++) {
            due(s + "SPAN 0", x.span(0, what), UNKNOWN);
        }
        due(s + "PLACES", x.count(2), 3);
    }

    private static void spanOfMany() {
        String s = "15, 49 SPANS by twelve MOVES: ";
        TrackedLetters x = Check.begun(Check.FORTY);
        for (int c = 0; c < 12; c++) {
            due(s + "MOVE " + c, x.move(0, 1 + 3 * c, 1, 3 + 3 * c), c);
        }
        due(s + "how many", x.span(0, 0), 49);
        CHECK.row(s + "SPAN 0", Check.spanOf(x, 0), 0, 1, 0);
        for (int c = 0; c < 12; c++) {
            CHECK.row(s + "GOES " + c, Check.spanOf(x, 1 + 4 * c), 2, 1, 1 + 4 * c);
            CHECK.row(s + "stays " + c, Check.spanOf(x, 2 + 4 * c), 0, 1, 2 + 4 * c);
            CHECK.row(s + "COMES " + c, Check.spanOf(x, 3 + 4 * c), 1, 1, 3 + 4 * c);
            CHECK.row(s + "stays " + c, Check.spanOf(x, 4 + 4 * c), 0, c < 11 ? 1 : 4, 4 + 4 * c);
        }
        CHECK.refused(s + "49 of 49", x, UNKNOWN, t -> t.span(49, 1));
    }

    // ---- found

    private static void foundOfWhat0And1() {
        String s = "16, 'OUTSIDE: what': ";
        TrackedLetters x = Check.begun("abc");
        for (int what : new int[] {2, 3, 4}) {
            CHECK.refused(s + what, x, OUTSIDE, t -> t.found(what));
        }
        for (int what : NO_NUMBERS) {
            CHECK.refused(s + what, x, OUTSIDE, t -> t.found(what));
        }
        Check.write(x, "abc");
        due(s + 0, x.found(0), 1);
        due(s + 1, x.found(1), 0);
    }

    private static void foundTellsNone() {
        String s = "16, 'NONE: there is none': ";
        TrackedLetters x = Check.begun("abc");
        for (String page : new String[] {"", "a", "ab", "abd", "acb", "abcd", "abca", Check.FORTY}) {
            Check.write(x, page);
            due(s + "how many read as '" + page + "'", x.found(0), 0);
            due(s + "the one that reads as '" + page + "'", x.found(1), NONE);
            x.blank();
        }
        TrackedLetters y = Check.ofLetters64();
        y.decide(0, 1);
        Check.write(y, Check.FORTY);
        due(s + "64 can't read as a PAGE of 40", y.found(0), 0);
        due(s + "64 can't read as a PAGE of 40", y.found(1), NONE);
        y.decide(0, 0);
        due(s + "40 can", y.found(0), 1);
        due(s + "by none of the OPEN ones", y.found(1), 0);
    }

    private static void foundTellsTheEmptySet() {
        String s = "16, THE PAGE '(an empty one is meant, too)': ";
        TrackedLetters x = Check.begun("ab");
        x.remove(0, 0, 1);
        x.remove(1, 1, 1);
        due(s + "by both", x.found(0), 1);
        due(s + "by both", x.found(1), 0b11);
        x.decide(0, 1);
        due(s + "by the other one", x.found(1), 0b10);
        x.decide(1, 1);
        due(s + "by none more", x.found(0), 1);
        due(s + "by none more", x.found(1), 0);
        x.decide(1, 2);
        due(s + "no more", x.found(0), 0);
        due(s + "no more", x.found(1), NONE);
    }

    private static void foundOfAllAndOfOne() {
        String s = "16, twelve OPEN ones: ";
        TrackedLetters x = Check.begun("a");
        for (int c = 0; c < 12; c++) {
            x.move(c % 4, 0, 1, c % 2);
        }
        x.letter('a');
        due(s + "all 4096 sets", x.found(0), 4096);
        due(s + "the one of fewest is empty", x.found(1), 0);
        TrackedLetters y = Check.begun("a");
        for (int c = 0; c < 12; c++) {
            Check.insert(y, 0, 0, "a");
        }
        Check.write(y, "aaaaaaaaaaaaa");
        due(s + "one set", y.found(0), 1);
        due(s + "all CHANGES", y.found(1), 4095);
        y.letter('a');
        due(s + "one sign more than all", y.found(1), NONE);
        y.blank();
        Check.write(y, "aaaaaaaaaaaa");
        due(s + "all but one", y.found(0), 12);
        due(s + "of eleven each, the least sum", y.found(1), 2047);
        y.blank();
        Check.write(y, "aa");
        due(s + "one of twelve", y.found(0), 12);
        due(s + "one of twelve, the least", y.found(1), 1);
        for (int c = 0; c < 11; c++) {
            y.decide(c, 2);
        }
        due(s + "the last alone", y.found(0), 1);
        due(s + "the last alone", y.found(1), 2048);
    }

    private static void foundOfAllPlaces() {
        String s = "16, 90 PLACES: ";
        TrackedLetters x = Check.ofPlaces90();
        Check.write(x, Check.FORTY);
        due(s + "with the MOVE of all or without it", x.found(0), 2);
        due(s + "without it", x.found(1), 0);
        x.blank();
        due(s + "never empty", x.found(0), 0);
        TrackedLetters y = Check.ofAllFull();
        Check.write(y, Check.FORTY);
        due(s + "all full, by none of the OPEN ones", y.found(0), 1);
        due(s + "all full, by none of the OPEN ones", y.found(1), 0);
        y.decide(1, 1);
        y.blank();
        Check.write(y, Check.FORTY.substring(26) + Check.FORTY.substring(0, 26));
        due(s + "all full, behind the TAKEN MOVE", y.found(0), 1);
        due(s + "all full, behind the TAKEN MOVE", y.found(1), 0);
    }

    // ---- count

    private static void countOfWhat0To8() {
        String s = "17, 'OUTSIDE': ";
        TrackedLetters x = Check.begun("abc");
        for (int what : new int[] {9, 10, 11, 12}) {
            CHECK.refused(s + what, x, OUTSIDE, t -> t.count(what));
        }
        for (int what : NO_NUMBERS) {
            CHECK.refused(s + what, x, OUTSIDE, t -> t.count(what));
        }
        CHECK.row(s + "0 to 8", Check.counts(x), 0, 3, 3, 0, 0, 0, 0, 1, 0);
    }

    private static void countOfWhatIsOpenOrTaken() {
        String s = "17, OPEN and TAKEN: ";
        TrackedLetters x = Check.ofChanges12();
        for (int c = 0; c < 12; c++) {
            due(s + "OPEN " + c, x.count(4), 12 - c);
            due(s + "TAKEN " + c, x.count(5), c);
            x.decide(c, 1);
        }
        for (int c = 0; c < 12; c++) {
            due(s + "none OPEN, REFUSED " + c, x.count(4), 0);
            due(s + "TAKEN, REFUSED " + c, x.count(5), 12 - c);
            x.decide(c, 2);
        }
        CHECK.row(s + "all REFUSED", Check.counts(x), 0, 15, 15, 12, 0, 0, 0, 1, 0);
    }

    private static void countEver() {
        String s = "17, '(both ever)': ";
        TrackedLetters x = Check.begun("abc");
        x.settle();
        x.remove(0, 0, 1);
        x.settle();
        due(s + "a refused settle() doesn't count", x.count(8), 1);
        x.begin();
        due(s + "begin() leaves both", x.count(7), 2);
        due(s + "begin() leaves both", x.count(8), 1);
        x.settle();
        due(s + "settle() leaves both", x.count(7), 2);
        due(s + "settle() leaves both", x.count(8), 2);

        // An object is used for 512 calls at most.
        TrackedLetters y = new TrackedLetters();
        TrackedLetters z = new TrackedLetters();
        for (int i = 0; i < 511; i++) {
            y.begin();
            z.settle();
        }
        due(s + "511 times begun, told by call 512", y.count(7), 511);
        due(s + "511 times settled, told by call 512", z.count(8), 511);
    }

    // ---- digest

    private static void digestWraps() {
        String s = "18, 'as longs, wrapping': ";
        BigInteger h = BigInteger.valueOf(1619);
        int[] told = {0, 0, 0, 0, 0, 0, 0, 1, 0, 0, 0, 0, 0, 0, 0, 0, 0, 0};
        for (int number : told) {
            h = h.multiply(BigInteger.valueOf(31)).add(BigInteger.valueOf(number));
        }
        due(s + "a new object, above 64 bits", h.bitLength() > 64 ? 1 : 0, 1);
        due(s + "a new object", new TrackedLetters().digest(), h.longValue());
        TrackedLetters x = Check.begun("a");
        BigInteger k = BigInteger.valueOf(1619);
        int[] ofA = {
            1, 97, 0, 0, NONE, 0, 0, 1, 97, 0, 0, NONE, 0, 0, 1, 97, 0, 0, NONE, 0, 0,
            1, 97, 0, 0, NONE, 0, 0, 1, 97, 0, 0, NONE, 0, 0, 1, 97, 0, 0, NONE, 0, 0,
            0, NONE, NONE, 0, 1, 0, 1, 0, 0, NONE, 0, 1, 1, 0, 0, 0, 0, 1, 0};
        for (int number : ofA) {
            k = k.multiply(BigInteger.valueOf(31)).add(BigInteger.valueOf(number));
        }
        due(s + "one letter", x.digest(), k.longValue());
    }

    private static void digestTakesEachNumber() {
        String s = "18, 'for each of these numbers, in order': ";
        TrackedLetters x = Check.begun("a");
        Check.insert(x, 1, 0, "b");
        x.letter('~');
        int[] a = {97, 0, 1, NONE, 0, 0};
        int[] b = {98, 1, 0, 0, 0, 0};
        int[][] told = {
            {1}, a, {2}, b, a, {1}, a, {2}, b, a, {1}, a, {1}, a,
            {1, NONE, 0, 1}, {0, NONE, NONE, 0},
            {0, 1, 0, 0, 1, 0, 0},
            {2}, {1, 1, 0}, {0, 1, 1},
            {0, NONE}, {126}, {1, 2, 2, 1, 1, 0, 0, 1, 0}};
        long h = 1619L;
        for (int[] row : told) {
            for (int number : row) {
                h = 31L * h + number;
            }
        }
        due(s + "a letter and an INSERT", x.digest(), h);
        x.letter('!');
        long more = x.digest();
        x.blank();
        x.letter('!');
        x.letter('~');
        due(s + "signs of THE PAGE in their order", x.digest() == more ? 1 : 0, 0);
    }
}
