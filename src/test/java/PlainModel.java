import java.util.ArrayList;
import java.util.HashSet;
import java.util.LinkedHashSet;
import java.util.List;
import java.util.Set;

/**
 * The document once more, as plainly as it reads and with no thought of speed or room, so that runs of calls can be
 * compared. It shares no code with the class and holds its state in another way.
 */
final class PlainModel {
    private static final int NONE = -1, UNKNOWN = -1001, OUTSIDE = -1002, STATE = -1003, FULL = -1004;

    private static final class Letter {
        int code;
        Change insert;
        Place home;
    }

    private static final class Place {
        Letter letter;
        Place from;
        Change move;
    }

    private static final class Change {
        int kind, author, state;
        boolean shown;
        final Set<Letter> touched = new LinkedHashSet<>();
    }

    private final List<Integer> page = new ArrayList<>();
    private final List<Letter> letters = new ArrayList<>();
    private final List<Place> line = new ArrayList<>();
    private final List<Change> changes = new ArrayList<>();
    private int begun, settled;

    // ---- terms

    private Place standsAt(Letter letter, Set<Change> set) {
        Place at = letter.home;
        while (true) {
            Place next = null;
            for (Place p : line) {
                if (p.from == at && set.contains(p.move) && (next == null || changes.indexOf(p.move) < changes.indexOf(next.move))) {
                    next = p;
                }
            }
            if (next == null) {
                return at;
            }
            at = next;
        }
    }

    private boolean isThere(Letter letter, Set<Change> set) {
        if (letter.insert != null && !set.contains(letter.insert)) {
            return false;
        }
        for (Change c : set) {
            if (c.kind == 1 && c.touched.contains(letter)) {
                return false;
            }
        }
        return true;
    }

    private List<Place> reads(Set<Change> set) {
        List<Place> r = new ArrayList<>();
        for (Letter letter : letters) {
            if (isThere(letter, set)) {
                r.add(standsAt(letter, set));
            }
        }
        r.sort((a, b) -> Integer.compare(line.indexOf(a), line.indexOf(b)));
        return r;
    }

    private Set<Change> view(int view) {
        Set<Change> set = new HashSet<>();
        for (Change c : changes) {
            boolean open = c.state == 0 && view != 0 && (view == 1 || c.author == view - 2 || c.shown);
            if (c.state == 1 || open) {
                set.add(c);
            }
        }
        return set;
    }

    private int mark(Place p) {
        boolean zero = reads(view(0)).contains(p);
        boolean one = reads(view(1)).contains(p);
        return zero && one ? 0 : one ? 1 : zero ? 2 : 3;
    }

    private List<List<Place>> spans() {
        List<List<Place>> r = new ArrayList<>();
        int last = 3;
        for (Place p : line) {
            int mark = mark(p);
            if (mark == 3) {
                continue;
            }
            if (r.isEmpty() || mark != last) {
                r.add(new ArrayList<>());
            }
            r.get(r.size() - 1).add(p);
            last = mark;
        }
        return r;
    }

    private int leans(Change one) {
        int bits = 0;
        for (Change that : changes) {
            boolean on = false;
            for (Letter letter : one.touched) {
                on |= one.kind != 0 && letter.insert == that;
            }
            for (Place p : line) {
                on |= p.move == one && p.from.move == that && one.kind == 2;
            }
            if (on && that != one) {
                bits |= 1 << changes.indexOf(that);
            }
        }
        return bits;
    }

    private int idle(Change change) {
        Set<Change> with = view(1);
        with.add(change);
        Set<Change> without = new HashSet<>(with);
        without.remove(change);
        int n = 0;
        for (Letter letter : change.touched) {
            boolean a = isThere(letter, with);
            boolean b = isThere(letter, without);
            if (!a && !b || a && b && standsAt(letter, with) == standsAt(letter, without)) {
                n++;
            }
        }
        return n;
    }

    private int openTouching(Letter letter, int kind) {
        int n = 0;
        for (Change c : changes) {
            if (c.state == 0 && c.kind == kind && c.touched.contains(letter)) {
                n++;
            }
        }
        return n;
    }

    private boolean torn(Letter letter) {
        if (openTouching(letter, 1) > 1) {
            return true;
        }
        for (Place p : line) {
            int leading = 0;
            for (Place q : line) {
                if (q.letter == letter && q.from == p && q.move.state == 0) {
                    leading++;
                }
            }
            if (leading > 1) {
                return true;
            }
        }
        return false;
    }

    private void find(int from, Set<Change> set, int bits, List<Integer> all) {
        if (from == changes.size()) {
            List<Integer> codes = new ArrayList<>();
            for (Place p : reads(set)) {
                codes.add(p.letter.code);
            }
            if (codes.equals(page)) {
                all.add(bits);
            }
            return;
        }
        find(from + 1, set, bits, all);
        if (changes.get(from).state == 0) {
            Set<Change> more = new HashSet<>(set);
            more.add(changes.get(from));
            find(from + 1, more, bits | 1 << from, all);
        }
    }

    private List<Integer> allFound() {
        List<Integer> all = new ArrayList<>();
        find(0, view(0), 0, all);
        all.sort((a, b) -> Integer.bitCount(a) != Integer.bitCount(b) ? Integer.bitCount(a) - Integer.bitCount(b) : a - b);
        return all;
    }

    private Place addPlace(int at, Letter letter, Place from, Change move) {
        Place p = new Place();
        p.letter = letter;
        p.from = from;
        p.move = move;
        line.add(at, p);
        return p;
    }

    private void addLetter(int code, int at, Change insert) {
        Letter letter = new Letter();
        letter.code = code;
        letter.insert = insert;
        letters.add(letter);
        letter.home = addPlace(at, letter, null, null);
        if (insert != null) {
            insert.touched.add(letter);
        }
    }

    private Change addChange(int kind, int author) {
        Change c = new Change();
        c.kind = kind;
        c.author = author;
        changes.add(c);
        return c;
    }

    private int leader(Place p) {
        return p.move != null ? changes.indexOf(p.move) : p.letter.insert != null ? changes.indexOf(p.letter.insert) : NONE;
    }

    private void firstText(List<Integer> codes) {
        letters.clear();
        line.clear();
        changes.clear();
        for (int code : codes) {
            addLetter(code, line.size(), null);
        }
    }

    // ---- calls

    int letter(int code) {
        if (code < 32 || code > 126) {
            return OUTSIDE;
        }
        if (page.size() == 40) {
            return FULL;
        }
        page.add(code);
        return page.size();
    }

    int blank() {
        int n = page.size();
        page.clear();
        return n;
    }

    int begin() {
        firstText(page);
        page.clear();
        begun++;
        return letters.size();
    }

    int insert(int author, int at) {
        if (author < 0 || author > 3) {
            return UNKNOWN;
        }
        List<Place> seen = reads(view(2 + author));
        if (at < 0 || at > seen.size()) {
            return UNKNOWN;
        }
        if (page.isEmpty()) {
            return STATE;
        }
        if (letters.size() + page.size() > 64 || changes.size() == 12 || line.size() + page.size() > 90) {
            return FULL;
        }
        Change c = addChange(0, author);
        int where = at == seen.size() ? line.size() : line.indexOf(seen.get(at));
        for (int code : page) {
            addLetter(code, where++, c);
        }
        page.clear();
        return changes.size() - 1;
    }

    int remove(int author, int from, int n) {
        if (author < 0 || author > 3) {
            return UNKNOWN;
        }
        List<Place> seen = reads(view(2 + author));
        if (from < 0 || from >= seen.size()) {
            return UNKNOWN;
        }
        if (n < 1 || (long) from + n > seen.size()) {
            return OUTSIDE;
        }
        if (changes.size() == 12) {
            return FULL;
        }
        Change c = addChange(1, author);
        for (Place p : seen.subList(from, from + n)) {
            c.touched.add(p.letter);
        }
        return changes.size() - 1;
    }

    int move(int author, int from, int n, int to) {
        if (author < 0 || author > 3) {
            return UNKNOWN;
        }
        List<Place> seen = reads(view(2 + author));
        if (from < 0 || from >= seen.size()) {
            return UNKNOWN;
        }
        if (n < 1 || (long) from + n > seen.size()) {
            return OUTSIDE;
        }
        if (to < 0 || to > seen.size()) {
            return UNKNOWN;
        }
        if (to > from && to < from + n) {
            return STATE;
        }
        if (changes.size() == 12 || line.size() + n > 90) {
            return FULL;
        }
        Change c = addChange(2, author);
        int where = to == seen.size() ? line.size() : line.indexOf(seen.get(to));
        for (Place p : seen.subList(from, from + n)) {
            c.touched.add(p.letter);
            addPlace(where++, p.letter, p, c);
        }
        return changes.size() - 1;
    }

    private boolean noChange(int change) {
        return change < 0 || change >= changes.size();
    }

    int show(int change, boolean is) {
        if (noChange(change)) {
            return UNKNOWN;
        }
        boolean was = changes.get(change).shown;
        changes.get(change).shown = is;
        return was ? 1 : 0;
    }

    int decide(int change, int what) {
        if (noChange(change)) {
            return UNKNOWN;
        }
        if (what < 0 || what > 2) {
            return OUTSIDE;
        }
        int was = changes.get(change).state;
        changes.get(change).state = what;
        return was;
    }

    int settle() {
        if (count(4) > 0) {
            return STATE;
        }
        List<Integer> codes = new ArrayList<>();
        for (Place p : reads(view(0))) {
            codes.add(p.letter.code);
        }
        firstText(codes);
        settled++;
        return letters.size();
    }

    int length(int view) {
        return view < 0 || view > 5 ? UNKNOWN : reads(view(view)).size();
    }

    int read(int view, int place, int what) {
        if (view < 0 || view > 5) {
            return UNKNOWN;
        }
        List<Place> seen = reads(view(view));
        if (place < 0 || place >= seen.size()) {
            return UNKNOWN;
        }
        Place p = seen.get(place);
        return switch (what) {
            case 0 -> p.letter.code;
            case 1 -> letters.indexOf(p.letter);
            case 2 -> line.indexOf(p);
            case 3 -> leader(p);
            case 4 -> openTouching(p.letter, 1);
            case 5 -> openTouching(p.letter, 2);
            default -> OUTSIDE;
        };
    }

    int place(int place, int what) {
        if (place < 0 || place >= line.size()) {
            return UNKNOWN;
        }
        Place p = line.get(place);
        return switch (what) {
            case 0 -> letters.indexOf(p.letter);
            case 1 -> line.indexOf(p.from);
            case 2 -> leader(p);
            case 3 -> mark(p);
            default -> OUTSIDE;
        };
    }

    int change(int change, int what) {
        if (noChange(change)) {
            return UNKNOWN;
        }
        Change c = changes.get(change);
        return switch (what) {
            case 0 -> c.kind;
            case 1 -> c.author;
            case 2 -> c.state;
            case 3 -> c.shown ? 1 : 0;
            case 4 -> c.touched.size();
            case 5 -> idle(c);
            case 6 -> leans(c);
            default -> OUTSIDE;
        };
    }

    int span(int which, int what) {
        if (what < 0 || what > 3) {
            return OUTSIDE;
        }
        List<List<Place>> spans = spans();
        if (what == 0) {
            return spans.size();
        }
        if (which < 0 || which >= spans.size()) {
            return UNKNOWN;
        }
        List<Place> span = spans.get(which);
        return what == 1 ? mark(span.get(0)) : what == 2 ? span.size() : line.indexOf(span.get(0));
    }

    int found(int what) {
        if (what < 0 || what > 1) {
            return OUTSIDE;
        }
        List<Integer> all = allFound();
        return what == 0 ? all.size() : all.isEmpty() ? NONE : all.get(0);
    }

    int count(int what) {
        return switch (what) {
            case 0 -> page.size();
            case 1 -> letters.size();
            case 2 -> line.size();
            case 3 -> changes.size();
            case 4 -> (int) changes.stream().filter(c -> c.state == 0).count();
            case 5 -> (int) changes.stream().filter(c -> c.state == 1).count();
            case 6 -> (int) letters.stream().filter(this::torn).count();
            case 7 -> begun;
            case 8 -> settled;
            default -> OUTSIDE;
        };
    }

    long digest() {
        List<Integer> told = new ArrayList<>();
        for (int view = 0; view < 6; view++) {
            told.add(length(view));
            for (int i = 0; i < length(view); i++) {
                for (int what = 0; what < 6; what++) {
                    told.add(read(view, i, what));
                }
            }
        }
        for (int p = 0; p < line.size(); p++) {
            for (int what = 0; what < 4; what++) {
                told.add(place(p, what));
            }
        }
        for (int c = 0; c < changes.size(); c++) {
            for (int what = 0; what < 7; what++) {
                told.add(change(c, what));
            }
        }
        int spans = span(0, 0);
        told.add(spans);
        for (int s = 0; s < spans; s++) {
            for (int what = 1; what < 4; what++) {
                told.add(span(s, what));
            }
        }
        told.add(found(0));
        told.add(found(1));
        told.addAll(page);
        for (int what = 0; what < 9; what++) {
            told.add(count(what));
        }
        long h = 1619;
        for (int number : told) {
            h = 31 * h + number;
        }
        return h;
    }
}
