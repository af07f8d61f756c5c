/** What the tests of this project share: comparing answers, and writing and reading texts. */
final class Check {
    /** One call on an object, so that a refusal can be looked at from both sides. */
    interface Call {
        int on(TrackedLetters x);
    }

    static final String FORTY = "abcdefghijklmnopqrstuvwxyzABCDEFGHIJKLMN";
    private int right = 0;
    private int wrong = 0;

    /** A call that is refused: its answer, and that the other calls answer as they did. */
    void refused(String sentence, TrackedLetters x, int want, Call call) {
        long before = x.digest();
        due(sentence, call.on(x), want);
        due(sentence + ", digest() behind the refusal", x.digest(), before);
    }

    void due(String call, long got, long want) {
        if (got == want) {
            right++;
        } else {
            wrong++;
            System.out.println(call + " answered " + got + ", due is " + want);
        }
    }

    void reads(String when, TrackedLetters x, int view, String want) {
        String got = text(x, view);
        if (got.equals(want)) {
            right++;
        } else {
            wrong++;
            System.out.println(when + ": view " + view + " reads '" + got + "', due is '" + want + "'");
        }
    }

    /** The answers of one call for what = 0, 1, .. in a row, so that a test shows them at a glance. */
    void row(String call, int[] got, int... want) {
        if (java.util.Arrays.equals(got, want)) {
            right++;
        } else {
            wrong++;
            System.out.println(call + " answered " + java.util.Arrays.toString(got) + ", due is " + java.util.Arrays.toString(want));
        }
    }

    void end(String name) {
        System.out.println(name + ": " + right + " answers as due, " + wrong + " not");
        if (wrong != 0) {
            System.exit(1);
        }
    }

    static void write(TrackedLetters x, String signs) {
        for (int i = 0; i < signs.length(); i++) {
            x.letter(signs.charAt(i));
        }
    }

    static TrackedLetters begun(String signs) {
        TrackedLetters x = new TrackedLetters();
        write(x, signs);
        x.begin();
        return x;
    }

    /** 64 LETTERS, 64 PLACES, one CHANGE. */
    static TrackedLetters ofLetters64() {
        TrackedLetters x = begun(FORTY);
        insert(x, 0, 40, FORTY.substring(0, 24));
        return x;
    }

    /** 50 LETTERS, 90 PLACES, two CHANGES. */
    static TrackedLetters ofPlaces90() {
        TrackedLetters x = begun(FORTY);
        x.move(0, 0, 40, 40);
        insert(x, 0, 0, "0123456789");
        return x;
    }

    /** 15 LETTERS, 15 PLACES, twelve CHANGES, each by the next AUTHOR. */
    static TrackedLetters ofChanges12() {
        TrackedLetters x = begun("abc");
        for (int i = 0; i < 12; i++) {
            insert(x, i % 4, 0, "z");
        }
        return x;
    }

    /** 64 LETTERS, 90 PLACES, twelve CHANGES. */
    static TrackedLetters ofAllFull() {
        TrackedLetters x = ofLetters64();
        x.move(0, 0, 26, 64);
        for (int i = 2; i < 12; i++) {
            x.remove(i % 4, i, 1);
        }
        return x;
    }

    static int insert(TrackedLetters x, int author, int at, String signs) {
        write(x, signs);
        return x.insert(author, at);
    }

    static String text(TrackedLetters x, int view) {
        StringBuilder b = new StringBuilder();
        for (int i = 0; i < x.length(view); i++) {
            b.append((char) x.read(view, i, 0));
        }
        return b.toString();
    }

    static int[] letterOf(TrackedLetters x, int view, int place) {
        int[] r = new int[6];
        for (int what = 0; what < r.length; what++) {
            r[what] = x.read(view, place, what);
        }
        return r;
    }

    static int[] placeOf(TrackedLetters x, int place) {
        int[] r = new int[4];
        for (int what = 0; what < r.length; what++) {
            r[what] = x.place(place, what);
        }
        return r;
    }

    static int[] changeOf(TrackedLetters x, int change) {
        int[] r = new int[7];
        for (int what = 0; what < r.length; what++) {
            r[what] = x.change(change, what);
        }
        return r;
    }

    static int[] spanOf(TrackedLetters x, int which) {
        int[] r = new int[3];
        for (int what = 1; what <= r.length; what++) {
            r[what - 1] = x.span(which, what);
        }
        return r;
    }

    static int[] counts(TrackedLetters x) {
        int[] r = new int[9];
        for (int what = 0; what < r.length; what++) {
            r[what] = x.count(what);
        }
        return r;
    }
}
