/** One object of the class and one of the plain model, which get the same calls; each pair of answers is compared. */
final class Both {
    final TrackedLetters x = new TrackedLetters();
    final PlainModel m = new PlainModel();
    private final Check check;
    /** Stands ahead of each call that is printed. */
    String when = "";
    /** How many calls each of the two got: the document speaks of 512 at most. */
    int calls = 0;

    Both(Check check) {
        this.check = check;
    }

    private int same(String call, int got, int want, int... handed) {
        calls++;
        // The text is made only where it is printed, since there are many calls.
        if (got != want) {
            check.due(when + call + java.util.Arrays.toString(handed), got, want);
        } else {
            check.due(call, got, want);
        }
        return got;
    }

    void write(String signs) {
        for (char sign : signs.toCharArray()) {
            letter(sign);
        }
    }

    int letter(int code) {
        return same("letter", x.letter(code), m.letter(code), code);
    }

    int blank() {
        return same("blank", x.blank(), m.blank());
    }

    int begin() {
        return same("begin", x.begin(), m.begin());
    }

    int insert(int author, int at) {
        return same("insert", x.insert(author, at), m.insert(author, at), author, at);
    }

    int remove(int author, int from, int n) {
        return same("remove", x.remove(author, from, n), m.remove(author, from, n), author, from, n);
    }

    int move(int author, int from, int n, int to) {
        return same("move", x.move(author, from, n, to), m.move(author, from, n, to), author, from, n, to);
    }

    int show(int change, boolean is) {
        return same("show", x.show(change, is), m.show(change, is), change, is ? 1 : 0);
    }

    int decide(int change, int what) {
        return same("decide", x.decide(change, what), m.decide(change, what), change, what);
    }

    int settle() {
        return same("settle", x.settle(), m.settle());
    }

    void length(int view) {
        same("length", x.length(view), m.length(view), view);
    }

    void read(int view, int place, int what) {
        same("read", x.read(view, place, what), m.read(view, place, what), view, place, what);
    }

    void place(int place, int what) {
        same("place", x.place(place, what), m.place(place, what), place, what);
    }

    void change(int change, int what) {
        same("change", x.change(change, what), m.change(change, what), change, what);
    }

    void span(int which, int what) {
        same("span", x.span(which, what), m.span(which, what), which, what);
    }

    void found(int what) {
        same("found", x.found(what), m.found(what), what);
    }

    void count(int what) {
        same("count", x.count(what), m.count(what), what);
    }

    void digest() {
        calls++;
        check.due(when + "digest", x.digest(), m.digest());
    }
}
