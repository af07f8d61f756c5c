/** The section "Terms" and what stands below it, a test for each sentence; "T" stands ahead of each. */
public final class TermsTest {
    private static final int NONE = -1, UNKNOWN = -1001, FULL = -1004;
    private static final int OPEN = 0, TAKEN = 1, REFUSED = 2;
    private static final Check CHECK = new Check();

    public static void main(String[] args) {
        lettersAreNumberedAsTheyCome();
        changesAreNumberedAsTheyCome();
        changesAreTwelveAtMost();
        changesAreOpenAtFirst();
        changesAreNotShownAtFirst();
        placesOfALetter();
        isThere();
        standsByTheLeastMove();
        standsWhereAChainEnds();
        views();
        viewsOfFourAuthors();
        insertIsRightAheadOfWhereItStands();
        insertAtLengthIsBehindAllPlaces();
        removeTakesWhatHeSees();
        moveIsRightAheadOfWhereItStands();
        moveAtLengthIsBehindAllPlaces();
        moveKeepsTheOrder();
        openAgain();
        refusedStaysKept();
        markOfFirstText();
        markOfInserted();
        markOfMoved();
        spansPassOverMark3();
        spansAreCutAtAnotherMark();
        idleOfADelete();
        idleOfAnInsert();
        idleOfAMove();
        idleWhateverItIs();
        leansOnInserts();
        leansOnTheMoveThatLeads();
        leansOfTwelve();
        leansWhateverTheyAre();
        tornByMoves();
        tornByDeletes();
        tornThoughNotThere();
        foundIsOfOpenOnes();
        foundIsOfFewestThenLeastSum();
        settledIsNumberedAnew();
        CHECK.end("TermsTest");
    }

    private static void due(String call, long got, long want) {
        CHECK.due(call, got, want);
    }

    // ---- letters, changes, places

    private static void lettersAreNumberedAsTheyCome() {
        String s = "T, 'LETTERS are numbered from 0 as they come': ";
        TrackedLetters x = Check.begun("ab");
        Check.insert(x, 1, 0, "xy");
        Check.insert(x, 0, 0, "z");
        CHECK.reads(s, x, 1, "xyzab");
        int[] numbers = {2, 3, 4, 0, 1};
        for (int i = 0; i < 5; i++) {
            due(s + "letter " + i, x.read(1, i, 1), numbers[i]);
            due(s + "PLACE " + i, x.place(i, 0), numbers[i]);
        }
    }

    private static void changesAreNumberedAsTheyCome() {
        String s = "T, 'CHANGES are numbered from 0 as they come; of KIND 0 INSERT, 1 DELETE, 2 MOVE': ";
        TrackedLetters x = Check.begun("abcd");
        due(s + "a MOVE", x.move(3, 0, 1, 2), 0);
        due(s + "an INSERT", Check.insert(x, 2, 0, "z"), 1);
        due(s + "a DELETE", x.remove(1, 0, 1), 2);
        int[] kinds = {2, 0, 1};
        for (int c = 0; c < 3; c++) {
            due(s + "KIND of " + c, x.change(c, 0), kinds[c]);
            due(s + "AUTHOR of " + c, x.change(c, 1), 3 - c);
        }
        x.begin();
        Check.insert(x, 0, 0, "ab");
        due(s + "from 0 again behind begin()", x.remove(0, 0, 1), 1);
        x.decide(0, TAKEN);
        x.decide(1, REFUSED);
        x.settle();
        due(s + "from 0 again behind settle()", x.remove(0, 0, 1), 0);
    }

    private static void changesAreTwelveAtMost() {
        String s = "T, 'CHANGES (12 at most at once)': ";
        TrackedLetters x = Check.begun("abcd");
        for (int c = 0; c < 12; c++) {
            int got = c % 3 == 0 ? Check.insert(x, 0, 0, "z") : c % 3 == 1 ? x.remove(1, 0, 1) : x.move(2, 0, 1, 4);
            due(s + "CHANGE " + c, got, c);
        }
        x.letter('y');
        CHECK.refused(s + "an INSERT more", x, FULL, t -> t.insert(0, 0));
        CHECK.refused(s + "a DELETE more", x, FULL, t -> t.remove(0, 0, 1));
        CHECK.refused(s + "a MOVE more", x, FULL, t -> t.move(0, 0, 1, 4));
        for (int c = 0; c < 12; c++) {
            x.decide(c, REFUSED);
        }
        x.settle();
        due(s + "at once: settled ones don't count", x.insert(0, 0), 0);
    }

    private static void changesAreOpenAtFirst() {
        String s = "T, 'OPEN (at first)': ";
        TrackedLetters x = Check.begun("ab");
        x.remove(0, 0, 1);
        due(s + "the first one", x.change(0, 2), OPEN);
        x.decide(0, TAKEN);
        x.settle();
        x.remove(0, 0, 1);
        due(s + "where a TAKEN one was", x.change(0, 2), OPEN);
        x.decide(0, REFUSED);
        x.letter('a');
        x.begin();
        x.remove(0, 0, 1);
        due(s + "where a REFUSED one was", x.change(0, 2), OPEN);
    }

    private static void changesAreNotShownAtFirst() {
        String s = "T, 'SHOWN, or not (at first)': ";
        TrackedLetters x = Check.begun("ab");
        x.remove(0, 0, 1);
        due(s + "the first one", x.change(0, 3), 0);
        x.show(0, true);
        x.decide(0, TAKEN);
        x.settle();
        x.remove(0, 0, 1);
        due(s + "where a SHOWN one was settled", x.change(0, 3), 0);
        CHECK.reads(s, x, 3, "b");
        x.show(0, true);
        x.letter('a');
        x.begin();
        x.remove(0, 0, 1);
        due(s + "where a SHOWN one was, behind begin()", x.change(0, 3), 0);
        CHECK.reads(s, x, 3, "a");
    }

    private static void placesOfALetter() {
        String s = "T, 'A LETTER has one PLACE where it came; each MOVE of it gives it another one': ";
        TrackedLetters x = Check.begun("ab");
        for (int c = 0; c < 12; c++) {
            x.move(0, 1, 1, 0);
            due(s + "PLACES behind MOVE " + c, x.count(2), 3 + c);
        }
        due(s + "LETTERS", x.count(1), 2);
        int[] has = new int[2];
        for (int p = 0; p < 14; p++) {
            has[x.place(p, 0)]++;
        }
        due(s + "PLACES of a", has[0], 1 + 6);
        due(s + "PLACES of b", has[1], 1 + 6);
        due(s + "a LETTER STANDS at one of them", x.length(2), 2);
    }

    // ---- by a set

    private static void isThere() {
        String s = "T, 'THERE, if it is of THE FIRST TEXT, or the INSERT .. is in the set, and no DELETE of it': ";
        TrackedLetters x = Check.begun("a");
        Check.insert(x, 0, 1, "z");
        x.remove(0, 0, 2);
        x.decide(1, REFUSED);
        x.remove(0, 0, 2);
        for (int set = 0; set < 8; set++) {
            for (int c = 0; c < 3; c++) {
                x.decide(c, (set >> c & 1) != 0 ? TAKEN : REFUSED);
            }
            String want = (set & 6) != 0 ? "" : (set & 1) != 0 ? "az" : "a";
            CHECK.reads(s + "set " + set, x, 0, want);
            CHECK.reads(s + "set " + set, x, 1, want);
        }
    }

    private static void standsByTheLeastMove() {
        String s = "T, 'of those MOVES, the one of least number leads': ";
        TrackedLetters x = Check.begun("abcd");
        x.move(0, 0, 1, 2);
        x.move(0, 1, 1, 3);
        x.move(1, 0, 1, 4);
        int[] stands = {0, 2, 0, 4, 6, 2, 6, 4};
        for (int set = 0; set < 8; set++) {
            for (int c = 0; c < 3; c++) {
                x.decide(c, (set >> c & 1) != 0 ? TAKEN : REFUSED);
            }
            for (int i = 0; i < 4; i++) {
                if (x.read(0, i, 1) == 0) {
                    due(s + "set " + set, x.read(0, i, 2), stands[set]);
                }
            }
            due(s + "LENGTH by set " + set, x.length(0), 4);
        }
    }

    private static void standsWhereAChainEnds() {
        String s = "T, 'if no MOVE of the set leads on from that one; and so on': ";
        TrackedLetters x = Check.begun("ab");
        for (int c = 0; c < 12; c++) {
            // b to behind itself, so that each MOVE leads on from the one ahead of it.
            due(s + "MOVE " + c, x.move(2, 1, 1, 2), c);
        }
        due(s + "twelve in a row", x.read(4, 1, 2), 13);
        for (int c = 11; c >= 0; c--) {
            x.decide(c, REFUSED);
            due(s + "without " + c, x.read(4, 1, 2), 1 + c);
            due(s + "LENGTH without " + c, x.length(4), 2);
        }
        for (int c = 11; c > 0; c--) {
            x.decide(c, TAKEN);
        }
        due(s + "the first of the chain is not in the set", x.read(0, 1, 2), 1);
        x.decide(0, TAKEN);
        due(s + "it is", x.read(0, 1, 2), 13);
        x.decide(6, REFUSED);
        due(s + "one within is not", x.read(0, 1, 2), 7);
    }

    private static void views() {
        String s = "T, 'VIEWS': ";
        String[] names = {"OPEN", "OPEN and SHOWN", "TAKEN", "TAKEN and SHOWN", "REFUSED", "REFUSED and SHOWN"};
        String[] seen = {"010100", "011111", "111111", "111111", "000000", "000000"};
        for (int i = 0; i < 6; i++) {
            TrackedLetters x = Check.begun("a");
            Check.insert(x, 1, 1, "z");
            x.show(0, i % 2 == 1);
            x.decide(0, i / 2);
            for (int view = 0; view < 6; view++) {
                CHECK.reads(s + names[i] + " by AUTHOR 1", x, view, seen[i].charAt(view) == '1' ? "az" : "a");
            }
        }
    }

    private static void viewsOfFourAuthors() {
        String s = "T, 'VIEWS: 2, and the number of an AUTHOR': ";
        TrackedLetters x = new TrackedLetters();
        for (int author = 0; author < 4; author++) {
            Check.insert(x, author, 0, "wxyz".substring(author, author + 1));
        }
        CHECK.reads(s, x, 0, "");
        CHECK.reads(s, x, 1, "wxyz");
        for (int author = 0; author < 4; author++) {
            CHECK.reads(s, x, 2 + author, "wxyz".substring(author, author + 1));
        }
        x.show(1, true);
        String[] with = {"wx", "x", "xy", "xz"};
        for (int author = 0; author < 4; author++) {
            CHECK.reads(s + "one SHOWN", x, 2 + author, with[author]);
        }
    }

    // ---- section 2

    private static void insertIsRightAheadOfWhereItStands() {
        String s = "T, INSERT 'right ahead of the one where the letter of that number STANDS in his VIEW': ";
        TrackedLetters x = Check.begun("abc");
        x.move(0, 0, 1, 3);
        Check.insert(x, 0, 2, "y");
        CHECK.reads(s + "where he MOVED it", x, 1, "bcya");
        Check.insert(x, 1, 0, "z");
        CHECK.reads(s + "where another sees it", x, 3, "zabc");
        due(s + "z", x.place(0, 0), 4);
        due(s + "y", x.place(4, 0), 3);
        Check.insert(x, 2, 1, "pq");
        due(s + "in that order, p", x.place(2, 0), 5);
        due(s + "in that order, q", x.place(3, 0), 6);
        due(s + "then b", x.place(4, 0), 1);
        Check.insert(x, 3, 1, "r");
        due(s + "ahead of b, behind what he doesn't see", x.place(4, 0), 7);
    }

    private static void insertAtLengthIsBehindAllPlaces() {
        String s = "T, INSERT '(LENGTH: behind all PLACES)': ";
        TrackedLetters x = Check.begun("ab");
        Check.insert(x, 0, 2, "xyz");
        Check.insert(x, 1, 2, "q");
        due(s + "behind what he doesn't see", x.place(5, 0), 5);
        Check.insert(x, 1, 1, "r");
        due(s + "below LENGTH: ahead of b", x.place(1, 0), 6);
        x.decide(0, REFUSED);
        Check.insert(x, 2, 2, "s");
        due(s + "behind what nobody sees", x.place(7, 0), 7);
        x.remove(3, 0, 2);
        Check.insert(x, 3, 0, "t");
        due(s + "LENGTH 0", x.place(8, 0), 8);
    }

    private static void removeTakesWhatHeSees() {
        String s = "T, 'these LETTERS are DELETED by it': ";
        TrackedLetters x = Check.begun("abcd");
        x.move(0, 0, 2, 4);
        x.remove(0, 1, 2);
        CHECK.reads(s + "d and a of cdab", x, 2, "cb");
        x.decide(0, REFUSED);
        CHECK.reads(s + "wherever they STAND", x, 2, "bc");
        x.remove(1, 0, 1);
        CHECK.reads(s, x, 3, "bcd");
        due(s + "a by two", x.read(0, 0, 4), 2);
        due(s + "b by none", x.read(0, 1, 4), 0);
        due(s + "d by one", x.read(0, 3, 4), 1);
    }

    private static void moveIsRightAheadOfWhereItStands() {
        String s = "T, MOVE 'right ahead of the one where the letter of that number STANDS in his VIEW': ";
        TrackedLetters x = Check.begun("abcd");
        x.move(0, 0, 1, 4);
        x.move(0, 0, 1, 3);
        CHECK.reads(s + "ahead of a, where he MOVED it", x, 2, "cdba");
        x.move(1, 3, 1, 0);
        CHECK.reads(s + "ahead of a, where another sees it", x, 3, "dabc");
        CHECK.row(s + "d", Check.placeOf(x, 0), 3, 4, 2, 1);
        CHECK.row(s + "a, where it came", Check.placeOf(x, 1), 0, NONE, NONE, 2);
        CHECK.row(s + "b", Check.placeOf(x, 5), 1, 2, 1, 1);
        CHECK.row(s + "a", Check.placeOf(x, 6), 0, 1, 0, 1);
    }

    private static void moveAtLengthIsBehindAllPlaces() {
        String s = "T, MOVE '(LENGTH: behind all PLACES)': ";
        TrackedLetters x = Check.begun("ab");
        Check.insert(x, 0, 2, "xyz");
        x.move(1, 0, 1, 2);
        CHECK.row(s + "behind what he doesn't see", Check.placeOf(x, 5), 0, 0, 1, 1);
        x.move(2, 1, 1, 2);
        CHECK.row(s + "the last one to behind itself", Check.placeOf(x, 6), 1, 1, 2, 1);
        x.move(3, 0, 2, 2);
        CHECK.row(s + "all of them, a", Check.placeOf(x, 7), 0, 0, 3, 3);
        CHECK.row(s + "all of them, b", Check.placeOf(x, 8), 1, 1, 3, 3);
    }

    private static void moveKeepsTheOrder() {
        String s = "T, MOVE 'in that order': ";
        TrackedLetters x = Check.begun("abcdef");
        x.move(0, 1, 4, 0);
        CHECK.reads(s + "back", x, 2, "bcdeaf");
        x.move(0, 0, 4, 6);
        CHECK.reads(s + "on", x, 2, "afbcde");
        x.move(0, 2, 4, 2);
        CHECK.reads(s + "to where they are", x, 2, "afbcde");
        for (int i = 2; i < 6; i++) {
            due(s + "each from its own", x.place(x.place(x.read(2, i, 2), 1), 0), i - 1);
            due(s + "TOUCHED", x.change(2, 4), 4);
        }
    }

    private static void openAgain() {
        String s = "T, 'A CHANGE that is not OPEN can be OPEN again': ";
        TrackedLetters x = Check.begun("abcd");
        Check.insert(x, 0, 1, "xy");
        x.move(0, 0, 3, 6);
        x.remove(1, 1, 2);
        Check.write(x, "bc");
        long before = x.digest();
        for (int c = 0; c < 3; c++) {
            for (int what = TAKEN; what <= REFUSED; what++) {
                x.decide(c, what);
                due(s + "it was not", x.digest() == before ? 1 : 0, 0);
                due(s + c + " from " + what, x.decide(c, OPEN), what);
                due(s + "all is as it was", x.digest(), before);
            }
        }
    }

    private static void refusedStaysKept() {
        String s = "T, 'What was INSERTED, DELETED, MOVED by a REFUSED one stays kept': ";
        TrackedLetters x = Check.begun("abc");
        Check.insert(x, 0, 0, "z");
        x.move(0, 0, 2, 4);
        x.remove(0, 0, 1);
        for (int c = 0; c < 3; c++) {
            x.decide(c, REFUSED);
        }
        CHECK.row(s + "counts", Check.counts(x), 0, 4, 6, 3, 0, 0, 0, 1, 0);
        for (int view = 0; view < 6; view++) {
            CHECK.reads(s + "in no set", x, view, "abc");
        }
        CHECK.row(s + "PLACE 0", Check.placeOf(x, 0), 3, NONE, 0, 3);
        CHECK.row(s + "PLACE 4", Check.placeOf(x, 4), 3, 0, 1, 3);
        CHECK.row(s + "the INSERT", Check.changeOf(x, 0), 0, 0, 2, 0, 1, 0, 0);
        CHECK.row(s + "the MOVE", Check.changeOf(x, 1), 2, 0, 2, 0, 2, 1, 1);
        CHECK.row(s + "the DELETE", Check.changeOf(x, 2), 1, 0, 2, 0, 1, 0, 0);
        x.decide(2, OPEN);
        CHECK.reads(s + "DELETED again", x, 1, "ac");
        x.decide(1, OPEN);
        CHECK.reads(s + "MOVED again", x, 1, "ca");
        x.decide(0, OPEN);
        CHECK.reads(s + "INSERTED again", x, 1, "cza");
    }

    // ---- section 3

    private static void markOfFirstText() {
        String s = "T, 'MARK of a PLACE', THE FIRST TEXT: ";
        TrackedLetters x = Check.begun("a");
        due(s + "by VIEW 0 and by VIEW 1", x.place(0, 3), 0);
        x.remove(0, 0, 1);
        due(s + "it GOES", x.place(0, 3), 2);
        x.decide(0, TAKEN);
        due(s + "by neither", x.place(0, 3), 3);
        x.decide(0, REFUSED);
        due(s + "by both again", x.place(0, 3), 0);
    }

    private static void markOfInserted() {
        String s = "T, 'MARK of a PLACE', INSERTED: ";
        TrackedLetters x = new TrackedLetters();
        Check.insert(x, 0, 0, "a");
        due(s + "it COMES", x.place(0, 3), 1);
        x.remove(0, 0, 1);
        int[][] marks = {{3, 3, 1}, {2, 3, 0}, {3, 3, 3}};
        for (int insert = 0; insert < 3; insert++) {
            for (int delete = 0; delete < 3; delete++) {
                x.decide(0, insert);
                x.decide(1, delete);
                due(s + "INSERT " + insert + ", DELETE " + delete, x.place(0, 3), marks[insert][delete]);
            }
        }
    }

    private static void markOfMoved() {
        String s = "T, 'MARK of a PLACE', MOVED: ";
        TrackedLetters x = Check.begun("ab");
        x.move(0, 0, 1, 2);
        x.move(1, 0, 1, 2);
        // MOVE 0 OPEN while MOVE 1 is TAKEN: the least one leads by VIEW 1, the other one by VIEW 0.
        int[][] marks = {
            {2, 1, 3}, {3, 1, 2}, {2, 1, 3},
            {3, 0, 3}, {3, 0, 3}, {3, 0, 3},
            {2, 3, 1}, {3, 3, 0}, {0, 3, 3}};
        for (int i = 0; i < 9; i++) {
            x.decide(0, i / 3);
            x.decide(1, i % 3);
            int[] got = {x.place(0, 3), x.place(2, 3), x.place(3, 3)};
            CHECK.row(s + "MOVES " + i / 3 + " and " + i % 3, got, marks[i]);
            due(s + "b stays", x.place(1, 3), 0);
        }
    }

    private static void spansPassOverMark3() {
        String s = "T, SPANS '(those of MARK 3 are passed over)': ";
        TrackedLetters x = Check.begun("abcde");
        x.remove(0, 0, 1);
        x.remove(0, 1, 1);
        x.remove(0, 2, 1);
        CHECK.reads(s, x, 2, "bd");
        due(s + "none of MARK 3", x.span(0, 0), 5);
        x.decide(1, TAKEN);
        due(s + "one within", x.span(0, 0), 3);
        CHECK.row(s + "two PLACES that are one SPAN", Check.spanOf(x, 1), 0, 2, 1);
        x.decide(0, TAKEN);
        due(s + "the first one", x.span(0, 0), 2);
        CHECK.row(s + "the first SPAN begins behind it", Check.spanOf(x, 0), 0, 2, 1);
        x.decide(2, TAKEN);
        due(s + "the last one", x.span(0, 0), 1);
        CHECK.row(s + "one SPAN", Check.spanOf(x, 0), 0, 2, 1);
        x.remove(0, 0, 2);
        CHECK.row(s + "it GOES", Check.spanOf(x, 0), 2, 2, 1);
        x.decide(3, TAKEN);
        due(s + "no SPAN", x.span(0, 0), 0);
    }

    private static void spansAreCutAtAnotherMark() {
        String s = "T, SPANS 'cut where the next one has another MARK': ";
        TrackedLetters x = Check.begun("abcd");
        Check.insert(x, 0, 2, "z");
        Check.insert(x, 1, 2, "yy");
        due(s + "two INSERTS in one SPAN", x.span(0, 0), 3);
        CHECK.row(s + "two INSERTS in one SPAN", Check.spanOf(x, 1), 1, 3, 2);
        x.remove(2, 1, 1);
        x.remove(3, 2, 1);
        due(s + "GOES, COMES, GOES", x.span(0, 0), 5);
        CHECK.row(s + "0", Check.spanOf(x, 0), 0, 1, 0);
        CHECK.row(s + "1", Check.spanOf(x, 1), 2, 1, 1);
        CHECK.row(s + "2", Check.spanOf(x, 2), 1, 3, 2);
        CHECK.row(s + "3", Check.spanOf(x, 3), 2, 1, 5);
        CHECK.row(s + "4", Check.spanOf(x, 4), 0, 1, 6);
        x.decide(0, REFUSED);
        x.decide(1, REFUSED);
        due(s + "two that GO meet over MARK 3", x.span(0, 0), 3);
        CHECK.row(s + "1", Check.spanOf(x, 1), 2, 2, 1);
    }

    private static void idleOfADelete() {
        String s = "T, IDLE of a DELETE: ";
        TrackedLetters x = Check.begun("abc");
        x.remove(0, 0, 3);
        due(s + "THERE by one of both", x.change(0, 5), 0);
        x.remove(1, 0, 1);
        due(s + "THERE by neither: DELETED by another one, too", x.change(0, 5), 1);
        x.decide(1, REFUSED);
        due(s + "that one is REFUSED", x.change(0, 5), 0);
        x.decide(1, TAKEN);
        due(s + "that one is TAKEN", x.change(0, 5), 1);
        due(s + "the TAKEN one, too", x.change(1, 5), 1);
    }

    private static void idleOfAnInsert() {
        String s = "T, IDLE of an INSERT: ";
        TrackedLetters x = Check.begun("a");
        Check.insert(x, 0, 0, "xyz");
        due(s + "THERE by one of both", x.change(0, 5), 0);
        x.remove(0, 1, 2);
        due(s + "DELETED again", x.change(0, 5), 2);
        x.move(0, 0, 1, 2);
        due(s + "MOVED: THERE by one of both", x.change(0, 5), 2);
        x.decide(1, REFUSED);
        due(s + "the DELETE is REFUSED", x.change(0, 5), 0);
        x.decide(0, REFUSED);
        due(s + "a DELETE of what isn't THERE", x.change(1, 5), 2);
        due(s + "a MOVE of what isn't THERE", x.change(2, 5), 1);
    }

    private static void idleOfAMove() {
        String s = "T, IDLE of a MOVE: ";
        TrackedLetters x = Check.begun("abcd");
        x.move(0, 0, 2, 4);
        due(s + "THERE by both, at another PLACE", x.change(0, 5), 0);
        x.move(1, 0, 2, 4);
        due(s + "the greater number leads nowhere", x.change(1, 5), 2);
        due(s + "the least one leads", x.change(0, 5), 0);
        x.move(0, 3, 1, 0);
        due(s + "the first of a chain", x.change(0, 5), 0);
        due(s + "the second of a chain", x.change(2, 5), 0);
        x.decide(0, REFUSED);
        due(s + "the second alone: at the same PLACE by both", x.change(2, 5), 1);
        due(s + "the other one leads now", x.change(1, 5), 0);
        x.move(2, 2, 1, 2);
        due(s + "to where it is: another PLACE all the same", x.change(3, 5), 0);
        x.remove(3, 2, 1);
        due(s + "THERE by neither", x.change(3, 5), 1);
        TrackedLetters y = Check.begun("ab");
        y.move(0, 1, 1, 0);
        y.move(1, 1, 1, 2);
        due(s + "at PLACE 0 by both", y.change(1, 5), 1);
    }

    private static void idleWhateverItIs() {
        String s = "T, IDLE 'all TAKEN and OPEN ones with it (whatever it is), and the same without it': ";
        TrackedLetters x = Check.begun("abcd");
        x.remove(0, 0, 2);
        x.move(1, 1, 3, 0);
        Check.insert(x, 2, 4, "z");
        for (int c = 0; c < 3; c++) {
            int idle = x.change(c, 5);
            for (int what = 0; what < 3; what++) {
                x.decide(c, what);
                due(s + c + " as " + what, x.change(c, 5), idle);
            }
            x.decide(c, OPEN);
        }
        due(s + "the DELETE", x.change(0, 5), 0);
        due(s + "the MOVE, b is DELETED", x.change(1, 5), 1);
        due(s + "the INSERT", x.change(2, 5), 0);
    }

    private static void leansOnInserts() {
        String s = "T, LEANS, 'if it DELETED or MOVED a LETTER that that one INSERTED': ";
        TrackedLetters x = Check.begun("ab");
        Check.insert(x, 0, 1, "xy");
        Check.insert(x, 0, 2, "z");
        CHECK.reads(s, x, 2, "axzyb");
        due(s + "an INSERT within an INSERT", x.change(1, 6), 0);
        due(s + "an INSERT, not on itself", x.change(0, 6), 0);
        x.remove(0, 0, 1);
        due(s + "a DELETE of THE FIRST TEXT", x.change(2, 6), 0);
        x.remove(0, 0, 1);
        due(s + "a DELETE of x", x.change(3, 6), 0b1);
        x.move(0, 0, 2, 3);
        due(s + "a MOVE of z and y", x.change(4, 6), 0b11);
        x.remove(0, 1, 2);
        due(s + "a DELETE of what was MOVED: not on the MOVE", x.change(5, 6), 0b11);
        for (int c = 0; c < 6; c++) {
            x.decide(c, REFUSED);
        }
        due(s + "whatever they are", x.change(4, 6), 0b11);
        due(s + "whatever they are", x.change(3, 6), 0b1);
    }

    private static void leansOnTheMoveThatLeads() {
        String s = "T, LEANS, 'or MOVED a LETTER from a PLACE to which that one leads': ";
        TrackedLetters x = Check.begun("abc");
        x.move(0, 0, 1, 3);
        x.move(0, 2, 1, 0);
        x.move(0, 0, 2, 3);
        CHECK.reads(s, x, 2, "cab");
        due(s + "from where it came", x.change(0, 6), 0);
        due(s + "from where 0 leads", x.change(1, 6), 0b1);
        due(s + "from where 1 leads, and from where b came", x.change(2, 6), 0b10);
        x.move(1, 0, 1, 3);
        due(s + "a second MOVE from where it came", x.change(3, 6), 0);
        x.show(0, true);
        x.move(2, 2, 1, 0);
        due(s + "a second MOVE from where 0 leads", x.change(4, 6), 0b1);
        Check.insert(x, 3, 0, "z");
        x.move(3, 0, 1, 2);
        x.move(3, 1, 1, 0);
        CHECK.reads(s, x, 5, "zbca");
        due(s + "on the INSERT, and on the MOVE", x.change(7, 6), 0b1100000);
        TrackedLetters y = Check.begun("abc");
        y.move(0, 1, 1, 3);
        y.move(0, 1, 1, 3);
        CHECK.reads(s, y, 2, "abc");
        y.move(0, 1, 2, 0);
        due(s + "to PLACE 0, on two MOVES", y.change(2, 6), 0b11);
        y.move(0, 0, 1, 3);
        y.move(0, 2, 1, 0);
        due(s + "from where 3 leads to PLACE 0", y.change(4, 6), 0b1000);
    }

    private static void leansOfTwelve() {
        String s = "T, LEANS, 'as bits', of twelve: ";
        TrackedLetters x = new TrackedLetters();
        for (int c = 0; c < 11; c++) {
            Check.insert(x, 0, 0, "z");
        }
        x.remove(0, 0, 11);
        due(s + "11 on all the others", x.change(11, 6), 2047);
        TrackedLetters y = Check.begun("ab");
        for (int c = 0; c < 12; c++) {
            y.move(0, 1, 1, 2);
        }
        due(s + "11 on 10", y.change(11, 6), 1024);
        due(s + "1 on 0", y.change(1, 6), 1);
    }

    private static void leansWhateverTheyAre() {
        String s = "T, LEANS, of what both are nothing is said: ";
        int[] leans = {0, 0b1, 0b11, 0b1};
        // Each as OPEN, TAKEN and REFUSED, with all that the others may be; and SHOWN or not.
        for (int states = 0; states < 81 * 16; states++) {
            TrackedLetters x = Check.begun("ab");
            Check.insert(x, 0, 1, "z");
            x.move(0, 1, 2, 0);
            x.move(0, 0, 1, 3);
            x.remove(0, 1, 2);
            int left = states / 16;
            for (int c = 0; c < 4; c++) {
                x.show(c, (states >> c & 1) != 0);
                x.decide(c, left % 3);
                left /= 3;
            }
            int[] got = {x.change(0, 6), x.change(1, 6), x.change(2, 6), x.change(3, 6)};
            CHECK.row(s + "states " + states, got, leans);
        }
    }

    private static void tornByMoves() {
        String s = "T, TORN, 'if two MOVES that are OPEN lead from one of its PLACES': ";
        TrackedLetters x = Check.begun("abc");
        x.move(0, 0, 1, 3);
        due(s + "one", x.count(6), 0);
        x.move(0, 2, 1, 0);
        due(s + "two, from two PLACES", x.count(6), 0);
        x.move(1, 0, 2, 3);
        due(s + "two, from where a came", x.count(6), 1);
        x.move(2, 1, 1, 3);
        due(s + "and from where b came", x.count(6), 2);
        x.decide(2, TAKEN);
        due(s + "one is TAKEN", x.count(6), 0);
        x.decide(2, REFUSED);
        due(s + "one is REFUSED", x.count(6), 0);
        x.show(0, true);
        x.move(3, 2, 1, 0);
        due(s + "two, from where 0 leads", x.count(6), 1);
        x.decide(0, TAKEN);
        due(s + "whether that one is OPEN or not", x.count(6), 1);
        x.decide(2, OPEN);
        due(s + "b once more", x.count(6), 2);
        x.decide(0, OPEN);
        due(s + "a in two ways is one", x.count(6), 2);
    }

    private static void tornByDeletes() {
        String s = "T, TORN, 'or if it is DELETED by two that are OPEN': ";
        TrackedLetters x = Check.begun("abc");
        x.remove(0, 0, 2);
        due(s + "one", x.count(6), 0);
        x.move(1, 0, 3, 3);
        due(s + "DELETED and MOVED", x.count(6), 0);
        x.remove(2, 1, 2);
        due(s + "b by two", x.count(6), 1);
        x.remove(3, 0, 3);
        due(s + "all by two at least", x.count(6), 3);
        x.decide(3, TAKEN);
        due(s + "one is TAKEN", x.count(6), 1);
        x.decide(0, REFUSED);
        due(s + "another one is REFUSED", x.count(6), 0);
        x.decide(0, OPEN);
        due(s + "OPEN again", x.count(6), 1);
        TrackedLetters y = Check.begun("abc");
        y.remove(0, 0, 3);
        for (int author = 1; author < 4; author++) {
            y.remove(author, author - 1, 1);
            due(s + "one more by the first and AUTHOR " + author, y.count(6), author);
        }
    }

    private static void tornThoughNotThere() {
        String s = "T, TORN, a LETTER that is not THERE: ";
        TrackedLetters x = Check.begun("a");
        Check.insert(x, 0, 1, "z");
        x.show(0, true);
        x.remove(0, 1, 1);
        x.remove(1, 1, 1);
        x.decide(0, REFUSED);
        due(s + "its INSERT is REFUSED", x.count(6), 1);
        x.move(2, 0, 1, 1);
        x.move(3, 0, 1, 1);
        x.remove(2, 0, 1);
        x.decide(5, TAKEN);
        due(s + "DELETED for good", x.count(6), 2);
    }

    private static void foundIsOfOpenOnes() {
        String s = "T, 'all sets of OPEN CHANGES so that by them and all TAKEN ones it READS as THE PAGE': ";
        TrackedLetters x = Check.begun("a");
        Check.insert(x, 0, 1, "b");
        Check.insert(x, 1, 1, "b");
        Check.insert(x, 2, 1, "b");
        x.decide(0, TAKEN);
        x.decide(1, REFUSED);
        Check.write(x, "ab");
        due(s + "by the TAKEN one", x.found(0), 1);
        due(s + "which is not told", x.found(1), 0);
        x.letter('b');
        due(s + "by an OPEN one, too", x.found(0), 1);
        due(s + "told", x.found(1), 0b100);
        x.letter('b');
        due(s + "not by the REFUSED one", x.found(0), 0);
        due(s + "not by the REFUSED one", x.found(1), NONE);
        x.decide(1, OPEN);
        due(s + "OPEN again", x.found(1), 0b110);
        x.show(1, true);
        due(s + "SHOWN or not", x.found(0), 1);
    }

    private static void foundIsOfFewestThenLeastSum() {
        String s = "T, FOUND, 'the one of fewest, of several the one of least sum of 2 to the power of their numbers': ";
        TrackedLetters x = new TrackedLetters();
        Check.insert(x, 0, 0, "a");
        Check.insert(x, 0, 1, "a");
        Check.insert(x, 0, 2, "aa");
        Check.insert(x, 0, 4, "a");
        Check.insert(x, 0, 5, "aa");
        Check.write(x, "aa");
        // Pairs of 0, 1 and 3; or 2; or 4.
        due(s + "how many", x.found(0), 5);
        due(s + "one CHANGE, though of a greater sum than two", x.found(1), 0b100);
        x.letter('a');
        // All of 0, 1, 3; or one of these with 2 or with 4.
        due(s + "how many", x.found(0), 7);
        due(s + "two CHANGES, of those the least sum", x.found(1), 0b101);
        x.decide(0, REFUSED);
        due(s + "how many", x.found(0), 4);
        due(s + "two CHANGES, of those the least sum", x.found(1), 0b110);
        x.decide(1, REFUSED);
        due(s + "two CHANGES, of those the least sum", x.found(1), 0b1100);
        x.decide(2, REFUSED);
        due(s + "the last two", x.found(1), 0b11000);
    }

    private static void settledIsNumberedAnew() {
        String s = "T, SETTLED, 'LETTERS are numbered anew in that order, PLACES are theirs alone, there are no CHANGES': ";
        TrackedLetters x = Check.begun("abcd");
        Check.insert(x, 0, 0, "yz");
        x.move(0, 2, 2, 6);
        x.remove(0, 2, 1);
        Check.insert(x, 1, 0, "no");
        x.decide(0, TAKEN);
        x.decide(1, TAKEN);
        x.decide(2, TAKEN);
        x.decide(3, REFUSED);
        CHECK.reads(s, x, 0, "yzdab");
        due(s + "LETTERS", x.settle(), 5);
        TrackedLetters y = Check.begun("yzdab");
        y.settle();
        due(s + "as THE FIRST TEXT", x.digest(), y.digest());
        x.move(2, 3, 2, 0);
        y.move(2, 3, 2, 0);
        due(s + "from then on", x.digest(), y.digest());
        due(s + "CHANGE 1", x.change(1, 0), UNKNOWN);
    }
}
