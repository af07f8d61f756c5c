/** A text with tracked changes; ../shared/DOC.md says what each call answers, and this file uses its words. */
public final class TrackedLetters {
    public static final int NONE = -1, UNKNOWN = -1001, OUTSIDE = -1002, STATE = -1003, FULL = -1004;

    private static final int MOST_SIGNS = 40, MOST_LETTERS = 64, MOST_CHANGES = 12, MOST_PLACES = 90;
    private static final int LEAST_CODE = 32, GREATEST_CODE = 126;
    private static final int AUTHORS = 4;
    private static final int VIEWS = 6, TAKEN_VIEW = 0, WHOLE_VIEW = 1, FIRST_OWN_VIEW = 2;
    private static final int INSERT = 0, DELETE = 1, MOVE = 2;
    private static final int OPEN = 0, TAKEN = 1, REFUSED = 2;
    private static final int STAYS = 0, COMES = 1, GOES = 2, HIDDEN = 3;
    private static final int LETTER_FACTS = 6, PLACE_FACTS = 4, CHANGE_FACTS = 7, SPAN_FACTS = 4, FOUND_FACTS = 2, COUNTS = 9;

    private final int[] page = new int[MOST_SIGNS];
    private int pageSize = 0;

    // Sets of LETTERS are the bits of a long, sets of CHANGES those of an int.
    private final int[] codeOf = new int[MOST_LETTERS];
    private int letters = 0;
    private long firstText = 0;

    private final Line line = new Line();
    private final Changes changes = new Changes();
    private final Spans spans = new Spans();

    // As long as LINE, so that no set of CHANGES can overfill it.
    private final int[] row = new int[MOST_PLACES];

    private int foundSets = 0;
    private int foundLeast = NONE;
    private int begun = 0;
    private int settled = 0;

    public TrackedLetters() {
    }

    // ---- texts

    public int letter(int code) {
        if (code < LEAST_CODE || code > GREATEST_CODE) {
            return OUTSIDE;
        }
        if (pageSize >= MOST_SIGNS) {
            return FULL;
        }
        page[pageSize] = code;
        pageSize++;
        return pageSize;
    }

    public int blank() {
        int had = pageSize;
        pageSize = 0;
        return had;
    }

    public int begin() {
        startText(page, pageSize);
        pageSize = 0;
        begun++;
        return letters;
    }

    private void startText(int[] codes, int n) {
        line.size = 0;
        changes.size = 0;
        letters = 0;
        for (int i = 0; i < n && i < MOST_LETTERS; i++) {
            addLetter(codes[i], i, NONE);
        }
        firstText = firstLetters(letters);
    }

    // A shift by 64 would be one by 0.
    private static long firstLetters(int n) {
        return n >= MOST_LETTERS ? -1L : (1L << n) - 1L;
    }

    private void addLetter(int code, int place, int change) {
        codeOf[letters] = code;
        line.openGap(place, 1);
        line.put(place, letters, NONE, change);
        letters++;
    }

    // ---- changes

    public int insert(int author, int at) {
        if (!isAuthor(author)) {
            return UNKNOWN;
        }
        int length = lineUp(setOf(FIRST_OWN_VIEW + author));
        if (at < 0 || at > length) {
            return UNKNOWN;
        }
        if (pageSize == 0) {
            return STATE;
        }
        if (letters + pageSize > MOST_LETTERS || changes.isFull() || line.size + pageSize > MOST_PLACES) {
            return FULL;
        }
        return insertPage(author, placeAhead(at, length));
    }

    private int insertPage(int author, int place) {
        int change = changes.add(INSERT, author);
        for (int i = 0; i < pageSize; i++) {
            changes.touch(change, letters);
            addLetter(page[i], place + i, change);
        }
        pageSize = 0;
        return change;
    }

    public int remove(int author, int from, int n) {
        if (!isAuthor(author)) {
            return UNKNOWN;
        }
        int length = lineUp(setOf(FIRST_OWN_VIEW + author));
        int refusal = refusalOfRange(from, n, length);
        if (refusal != 0) {
            return refusal;
        }
        if (changes.isFull()) {
            return FULL;
        }
        int change = changes.add(DELETE, author);
        for (int i = from; i < from + n; i++) {
            changes.touch(change, line.letterOf[row[i]]);
        }
        return change;
    }

    public int move(int author, int from, int n, int to) {
        if (!isAuthor(author)) {
            return UNKNOWN;
        }
        int length = lineUp(setOf(FIRST_OWN_VIEW + author));
        int refusal = refusalOfRange(from, n, length);
        if (refusal != 0) {
            return refusal;
        }
        if (to < 0 || to > length) {
            return UNKNOWN;
        }
        if (to > from && to < from + n) {
            return STATE;
        }
        if (changes.isFull() || line.size + n > MOST_PLACES) {
            return FULL;
        }
        return moveLetters(author, from, n, placeAhead(to, length));
    }

    private int moveLetters(int author, int from, int n, int place) {
        int change = changes.add(MOVE, author);
        line.openGap(place, n);
        for (int i = 0; i < n; i++) {
            int source = row[from + i];
            // The row was filled before the gap pushed PLACES on.
            if (source >= place) {
                source += n;
            }
            changes.touch(change, line.letterOf[source]);
            line.put(place + i, line.letterOf[source], source, change);
        }
        return change;
    }

    private static boolean isAuthor(int author) {
        return author >= 0 && author < AUTHORS;
    }

    // 0 if there are n letters from there on; the last test can't wrap as from + n could.
    private static int refusalOfRange(int from, int n, int length) {
        if (from < 0 || from >= length) {
            return UNKNOWN;
        }
        if (n < 1 || n > length - from) {
            return OUTSIDE;
        }
        return 0;
    }

    private int placeAhead(int number, int length) {
        return number < length ? row[number] : line.size;
    }

    public int show(int change, boolean is) {
        if (!changes.names(change)) {
            return UNKNOWN;
        }
        int was = changes.shownOf[change];
        changes.shownOf[change] = is ? 1 : 0;
        return was;
    }

    public int decide(int change, int what) {
        if (!changes.names(change)) {
            return UNKNOWN;
        }
        if (what < OPEN || what > REFUSED) {
            return OUTSIDE;
        }
        int was = changes.statusOf[change];
        changes.statusOf[change] = what;
        return was;
    }

    public int settle() {
        if (changes.inStatus(OPEN) != 0) {
            return STATE;
        }
        int length = lineUp(setOf(TAKEN_VIEW));
        // The codes must be saved from codeOf, which the new text fills in another order.
        for (int i = 0; i < length; i++) {
            row[i] = codeOf[line.letterOf[row[i]]];
        }
        startText(row, length);
        settled++;
        return letters;
    }

    // ---- what READS by a set

    private int setOf(int view) {
        int taken = changes.inStatus(TAKEN);
        int open = changes.inStatus(OPEN);
        if (view == TAKEN_VIEW) {
            return taken;
        }
        if (view == WHOLE_VIEW) {
            return taken | open;
        }
        return taken | (open & changes.seenBy(view - FIRST_OWN_VIEW));
    }

    private long thereBy(int set) {
        long came = firstText;
        long gone = 0;
        for (int c = 0; c < changes.size; c++) {
            if ((set >> c & 1) != 0) {
                if (changes.kindOf[c] == INSERT) {
                    came |= changes.touchedBy[c];
                } else if (changes.kindOf[c] == DELETE) {
                    gone |= changes.touchedBy[c];
                }
            }
        }
        return came & ~gone;
    }

    /** Fills the row with the PLACES of what READS by a set: how many. */
    private int lineUp(int set) {
        long there = thereBy(set);
        int n = 0;
        for (int p = 0; p < line.size; p++) {
            if (line.holds(p, there, set)) {
                row[n] = p;
                n++;
            }
        }
        return n;
    }

    private boolean readsAsPage(int set) {
        long there = thereBy(set);
        // Most sets fail by their length alone, which is cheap to tell.
        if (Long.bitCount(there) != pageSize) {
            return false;
        }
        int n = 0;
        for (int p = 0; p < line.size; p++) {
            if (line.holds(p, there, set)) {
                if (n >= pageSize || codeOf[line.letterOf[p]] != page[n]) {
                    return false;
                }
                n++;
            }
        }
        return n == pageSize;
    }

    // ---- what is told

    public int length(int view) {
        return isView(view) ? lineUp(setOf(view)) : UNKNOWN;
    }

    private static boolean isView(int view) {
        return view >= 0 && view < VIEWS;
    }

    public int read(int view, int place, int what) {
        if (!isView(view)) {
            return UNKNOWN;
        }
        int length = lineUp(setOf(view));
        if (place < 0 || place >= length) {
            return UNKNOWN;
        }
        if (what < 0 || what >= LETTER_FACTS) {
            return OUTSIDE;
        }
        return letterFact(row[place], what);
    }

    private int letterFact(int place, int what) {
        int letter = line.letterOf[place];
        switch (what) {
            case 0: return codeOf[letter];
            case 1: return letter;
            case 2: return place;
            case 3: return line.byOf[place];
            case 4: return changes.openOnes(DELETE, letter);
            default: return changes.openOnes(MOVE, letter);
        }
    }

    public int place(int place, int what) {
        if (place < 0 || place >= line.size) {
            return UNKNOWN;
        }
        if (what < 0 || what >= PLACE_FACTS) {
            return OUTSIDE;
        }
        return placeFact(place, what);
    }

    private int placeFact(int place, int what) {
        switch (what) {
            case 0: return line.letterOf[place];
            case 1: return line.fromOf[place];
            case 2: return line.byOf[place];
            default: return markOf(place);
        }
    }

    private int markOf(int place) {
        int taken = setOf(TAKEN_VIEW);
        int whole = setOf(WHOLE_VIEW);
        boolean before = line.holds(place, thereBy(taken), taken);
        boolean after = line.holds(place, thereBy(whole), whole);
        if (before) {
            return after ? STAYS : GOES;
        }
        return after ? COMES : HIDDEN;
    }

    public int change(int change, int what) {
        if (!changes.names(change)) {
            return UNKNOWN;
        }
        if (what < 0 || what >= CHANGE_FACTS) {
            return OUTSIDE;
        }
        return changeFact(change, what);
    }

    private int changeFact(int change, int what) {
        switch (what) {
            case 0: return changes.kindOf[change];
            case 1: return changes.authorOf[change];
            case 2: return changes.statusOf[change];
            case 3: return changes.shownOf[change];
            case 4: return Long.bitCount(changes.touchedBy[change]);
            case 5: return idleOf(change);
            default: return changes.insertsUnder(change) | line.leadersUnder(change);
        }
    }

    private int idleOf(int change) {
        int with = setOf(WHOLE_VIEW) | 1 << change;
        int without = with & ~(1 << change);
        long thereWith = thereBy(with);
        long thereWithout = thereBy(without);
        long touched = changes.touchedBy[change];
        int idle = Long.bitCount(touched & ~thereWith & ~thereWithout);
        // A LETTER STANDS at one PLACE by each set: the PLACES that hold it by both count it once.
        for (int p = 0; p < line.size; p++) {
            if (line.holds(p, touched & thereWith, with) && line.holds(p, touched & thereWithout, without)) {
                idle++;
            }
        }
        return idle;
    }

    public int span(int which, int what) {
        if (what < 0 || what >= SPAN_FACTS) {
            return OUTSIDE;
        }
        cutSpans();
        if (what == 0) {
            return spans.size;
        }
        if (which < 0 || which >= spans.size) {
            return UNKNOWN;
        }
        return spans.factOf(which, what);
    }

    private void cutSpans() {
        spans.size = 0;
        for (int p = 0; p < line.size; p++) {
            int mark = markOf(p);
            if (mark != HIDDEN) {
                spans.take(p, mark);
            }
        }
    }

    public int found(int what) {
        if (what < 0 || what >= FOUND_FACTS) {
            return OUTSIDE;
        }
        seekPage();
        return what == 0 ? foundSets : foundLeast;
    }

    private void seekPage() {
        int taken = changes.inStatus(TAKEN);
        int open = changes.inStatus(OPEN);
        foundSets = 0;
        foundLeast = NONE;
        // From the least sum upwards: of several with fewest CHANGES the first one stays.
        for (int set = 0; set <= open; set++) {
            if ((set & ~open) == 0 && readsAsPage(taken | set)) {
                foundSets++;
                if (foundLeast == NONE || Integer.bitCount(set) < Integer.bitCount(foundLeast)) {
                    foundLeast = set;
                }
            }
        }
    }

    public int count(int what) {
        switch (what) {
            case 0: return pageSize;
            case 1: return letters;
            case 2: return line.size;
            case 3: return changes.size;
            case 4: return Integer.bitCount(changes.inStatus(OPEN));
            case 5: return Integer.bitCount(changes.inStatus(TAKEN));
            case 6: return Long.bitCount(line.tornBy(changes.inStatus(OPEN)) | changes.deletedTwice());
            case 7: return begun;
            case 8: return settled;
            default: return OUTSIDE;
        }
    }

    public long digest() {
        long h = 1619L;
        for (int view = 0; view < VIEWS; view++) {
            h = withView(h, view);
        }
        h = withPlaces(h);
        h = withChanges(h);
        h = withSpans(h);
        seekPage();
        h = with(h, foundSets);
        h = with(h, foundLeast);
        for (int i = 0; i < pageSize; i++) {
            h = with(h, page[i]);
        }
        for (int what = 0; what < COUNTS; what++) {
            h = with(h, count(what));
        }
        return h;
    }

    private static long with(long h, int number) {
        return 31L * h + number;
    }

    private long withView(long h, int view) {
        int length = lineUp(setOf(view));
        long sum = with(h, length);
        for (int i = 0; i < length; i++) {
            for (int what = 0; what < LETTER_FACTS; what++) {
                sum = with(sum, letterFact(row[i], what));
            }
        }
        return sum;
    }

    private long withPlaces(long h) {
        long sum = h;
        for (int p = 0; p < line.size; p++) {
            for (int what = 0; what < PLACE_FACTS; what++) {
                sum = with(sum, placeFact(p, what));
            }
        }
        return sum;
    }

    private long withChanges(long h) {
        long sum = h;
        for (int c = 0; c < changes.size; c++) {
            for (int what = 0; what < CHANGE_FACTS; what++) {
                sum = with(sum, changeFact(c, what));
            }
        }
        return sum;
    }

    private long withSpans(long h) {
        cutSpans();
        long sum = with(h, spans.size);
        for (int s = 0; s < spans.size; s++) {
            for (int what = 1; what < SPAN_FACTS; what++) {
                sum = with(sum, spans.factOf(s, what));
            }
        }
        return sum;
    }

    /** The PLACES, each known by the number it has in the LINE just now. */
    private static final class Line {
        final int[] letterOf = new int[MOST_PLACES];
        final int[] fromOf = new int[MOST_PLACES];
        final int[] byOf = new int[MOST_PLACES];
        /** Which MOVES lead from a PLACE, as bits. */
        final int[] onwardOf = new int[MOST_PLACES];
        int size = 0;

        /** The caller sees to it that there is room, and puts a PLACE into each part of the gap. */
        void openGap(int at, int n) {
            for (int p = size - 1; p >= at; p--) {
                letterOf[p + n] = letterOf[p];
                fromOf[p + n] = fromOf[p];
                byOf[p + n] = byOf[p];
                onwardOf[p + n] = onwardOf[p];
            }
            size += n;
            for (int p = 0; p < size; p++) {
                if (fromOf[p] >= at) {
                    fromOf[p] += n;
                }
            }
        }

        void put(int at, int letter, int from, int change) {
            letterOf[at] = letter;
            fromOf[at] = from;
            byOf[at] = change;
            onwardOf[at] = 0;
            if (from != NONE) {
                onwardOf[from] |= 1 << change;
            }
        }

        /** Whether a LETTER of those that are THERE STANDS at a PLACE by a set. */
        boolean holds(int place, long there, int set) {
            return (there >>> letterOf[place] & 1L) != 0 && (onwardOf[place] & set) == 0 && leadsTo(place, set);
        }

        // Back from the PLACE to where its LETTER came: each step must be the least MOVE that the set has there.
        private boolean leadsTo(int place, int set) {
            int at = place;
            for (int steps = 0; steps < MOST_PLACES && fromOf[at] != NONE; steps++) {
                int ways = onwardOf[fromOf[at]] & set;
                if ((ways & -ways) != 1 << byOf[at]) {
                    return false;
                }
                at = fromOf[at];
            }
            return true;
        }

        /** The CHANGES that lead to the PLACES from which a MOVE leads. */
        int leadersUnder(int move) {
            int bits = 0;
            for (int p = 0; p < size; p++) {
                if (byOf[p] == move && fromOf[p] != NONE && byOf[fromOf[p]] != NONE) {
                    bits |= 1 << byOf[fromOf[p]];
                }
            }
            return bits;
        }

        long tornBy(int open) {
            long torn = 0;
            for (int p = 0; p < size; p++) {
                if (Integer.bitCount(onwardOf[p] & open) >= 2) {
                    torn |= 1L << letterOf[p];
                }
            }
            return torn;
        }
    }

    private static final class Changes {
        final int[] kindOf = new int[MOST_CHANGES];
        final int[] authorOf = new int[MOST_CHANGES];
        final int[] statusOf = new int[MOST_CHANGES];
        final int[] shownOf = new int[MOST_CHANGES];
        final long[] touchedBy = new long[MOST_CHANGES];
        int size = 0;

        boolean names(int change) {
            return change >= 0 && change < size;
        }

        boolean isFull() {
            return size >= MOST_CHANGES;
        }

        int add(int kind, int author) {
            int change = size;
            kindOf[change] = kind;
            authorOf[change] = author;
            statusOf[change] = OPEN;
            shownOf[change] = 0;
            touchedBy[change] = 0;
            size++;
            return change;
        }

        void touch(int change, int letter) {
            touchedBy[change] |= 1L << letter;
        }

        int inStatus(int status) {
            int bits = 0;
            for (int c = 0; c < size; c++) {
                if (statusOf[c] == status) {
                    bits |= 1 << c;
                }
            }
            return bits;
        }

        int seenBy(int author) {
            int bits = 0;
            for (int c = 0; c < size; c++) {
                if (authorOf[c] == author || shownOf[c] == 1) {
                    bits |= 1 << c;
                }
            }
            return bits;
        }

        int openOnes(int kind, int letter) {
            int n = 0;
            for (int c = 0; c < size; c++) {
                if (statusOf[c] == OPEN && kindOf[c] == kind && (touchedBy[c] >>> letter & 1L) != 0) {
                    n++;
                }
            }
            return n;
        }

        /** The INSERTS of which a CHANGE DELETED or MOVED a LETTER. */
        int insertsUnder(int change) {
            int bits = 0;
            for (int c = 0; c < size; c++) {
                if (c != change && kindOf[c] == INSERT && (touchedBy[c] & touchedBy[change]) != 0) {
                    bits |= 1 << c;
                }
            }
            return bits;
        }

        long deletedTwice() {
            long once = 0;
            long twice = 0;
            for (int c = 0; c < size; c++) {
                if (statusOf[c] == OPEN && kindOf[c] == DELETE) {
                    twice |= once & touchedBy[c];
                    once |= touchedBy[c];
                }
            }
            return twice;
        }
    }

    private static final class Spans {
        private final int[] markOf = new int[MOST_PLACES];
        private final int[] placesOf = new int[MOST_PLACES];
        private final int[] startOf = new int[MOST_PLACES];
        int size = 0;

        /** The caller takes PLACES as they stand in the LINE. */
        void take(int place, int mark) {
            if (size == 0 || markOf[size - 1] != mark) {
                markOf[size] = mark;
                placesOf[size] = 0;
                startOf[size] = place;
                size++;
            }
            placesOf[size - 1]++;
        }

        int factOf(int which, int what) {
            switch (what) {
                case 1: return markOf[which];
                case 2: return placesOf[which];
                default: return startOf[which];
            }
        }
    }
}
