import static java.lang.Integer.MAX_VALUE;
import static java.lang.Integer.MIN_VALUE;

import java.util.ArrayList;
import java.util.List;

/**
 * "Refusals .. change nothing": of two objects that were made alike one gets a refused call, and from then on both
 * answer alike, at once and in all that is done with them later.
 */
public final class RefusalsTest {
    private static final int UNKNOWN = -1001, OUTSIDE = -1002, STATE = -1003, FULL = -1004;
    private static final Check CHECK = new Check();

    /** A way to make an object, so that a twin can be made. */
    private interface Maker {
        TrackedLetters make();
    }

    private record Refused(String name, int answer, Check.Call call) {
    }

    public static void main(String[] args) {
        twins("a new object", TrackedLetters::new, ofNew());
        twins("an ordinary object", RefusalsTest::ordinary, ofOrdinary());
        twins("none OPEN", RefusalsTest::noneOpen, ofOrdinaryAsking());
        twins("64 LETTERS", RefusalsTest::fullOfLetters, ofFullLetters());
        twins("90 PLACES", RefusalsTest::fullOfPlaces, ofFullPlaces());
        twins("12 CHANGES", RefusalsTest::fullOfChanges, ofFullChanges());
        twins("a full PAGE", RefusalsTest::fullPage, ofFullPage());
        CHECK.end("RefusalsTest");
    }

    private static void twins(String scene, Maker maker, List<Refused> refused) {
        TrackedLetters all = maker.make();
        for (Refused r : refused) {
            TrackedLetters x = maker.make();
            CHECK.due(scene + ", " + r.name(), r.call().on(x), r.answer());
            CHECK.due(scene + ", " + r.name() + ", among others", r.call().on(all), r.answer());
            goOnAlike(scene + " behind " + r.name(), x, maker.make());
        }
        goOnAlike(scene + " behind all its refusals", all, maker.make());
    }

    private static void goOnAlike(String when, TrackedLetters x, TrackedLetters y) {
        alike(when + ", at once", x, y);
        Check.Call[] later = {
            t -> t.letter('p'), t -> t.insert(1, t.length(3)), t -> t.blank(), t -> t.move(0, 0, 1, t.length(2)),
            t -> t.remove(3, 0, 1), t -> t.show(0, true), t -> t.decide(1, 0), t -> t.show(t.count(3) - 1, true),
            t -> t.letter('q'), t -> t.insert(2, 0), t -> t.found(0), t -> t.found(1)};
        for (int i = 0; i < later.length; i++) {
            CHECK.due(when + ", later call " + i, later[i].on(x), later[i].on(y));
        }
        alike(when + ", with more CHANGES", x, y);
        for (int what = 0; what < 3; what++) {
            for (int c = 0; c < 12; c++) {
                CHECK.due(when + ", decide", x.decide(c, (what + c) % 3), y.decide(c, (what + c) % 3));
            }
            alike(when + ", decided in way " + what, x, y);
        }
        for (int c = 0; c < 12; c++) {
            CHECK.due(when + ", decide", x.decide(c, 1 + c % 2), y.decide(c, 1 + c % 2));
        }
        CHECK.due(when + ", settle", x.settle(), y.settle());
        alike(when + ", settled", x, y);
    }

    // digest() takes what all the other calls tell.
    private static void alike(String when, TrackedLetters x, TrackedLetters y) {
        CHECK.due(when + ", digest", x.digest(), y.digest());
        CHECK.row(when + ", counts", Check.counts(x), Check.counts(y));
    }

    // ---- scenes

    private static TrackedLetters ordinary() {
        TrackedLetters x = Check.begun("abcd");
        Check.insert(x, 0, 1, "XY");
        x.move(0, 0, 2, 4);
        x.remove(1, 1, 2);
        Check.write(x, "bc");
        return x;
    }

    private static TrackedLetters noneOpen() {
        TrackedLetters x = ordinary();
        x.decide(0, 1);
        x.decide(1, 2);
        x.decide(2, 1);
        x.show(1, true);
        return x;
    }

    private static TrackedLetters fullOfLetters() {
        TrackedLetters x = Check.ofLetters64();
        x.letter('z');
        return x;
    }

    private static TrackedLetters fullOfPlaces() {
        TrackedLetters x = Check.ofPlaces90();
        x.letter('z');
        return x;
    }

    private static TrackedLetters fullOfChanges() {
        TrackedLetters x = Check.ofChanges12();
        x.letter('y');
        return x;
    }

    private static TrackedLetters fullPage() {
        TrackedLetters x = Check.begun("abcd");
        x.remove(0, 0, 1);
        Check.write(x, Check.FORTY);
        return x;
    }

    // ---- what is refused

    private static List<Refused> ofNew() {
        List<Refused> r = new ArrayList<>();
        r.add(new Refused("letter(31)", OUTSIDE, t -> t.letter(31)));
        r.add(new Refused("insert(0, 0)", STATE, t -> t.insert(0, 0)));
        r.add(new Refused("insert(0, 1)", UNKNOWN, t -> t.insert(0, 1)));
        r.add(new Refused("remove(0, 0, 1)", UNKNOWN, t -> t.remove(0, 0, 1)));
        r.add(new Refused("move(0, 0, 1, 0)", UNKNOWN, t -> t.move(0, 0, 1, 0)));
        r.add(new Refused("show(0)", UNKNOWN, t -> t.show(0, true)));
        r.add(new Refused("decide(0, 1)", UNKNOWN, t -> t.decide(0, 1)));
        r.add(new Refused("read(0, 0, 0)", UNKNOWN, t -> t.read(0, 0, 0)));
        r.add(new Refused("place(0, 0)", UNKNOWN, t -> t.place(0, 0)));
        r.add(new Refused("change(0, 0)", UNKNOWN, t -> t.change(0, 0)));
        r.add(new Refused("span(0, 1)", UNKNOWN, t -> t.span(0, 1)));
        return r;
    }

    private static List<Refused> ofOrdinary() {
        List<Refused> r = ofOrdinaryAsking();
        r.add(new Refused("letter(127)", OUTSIDE, t -> t.letter(127)));
        r.add(new Refused("insert(4, 0)", UNKNOWN, t -> t.insert(4, 0)));
        r.add(new Refused("insert(0, 7)", UNKNOWN, t -> t.insert(0, 7)));
        r.add(new Refused("insert(1, 3)", UNKNOWN, t -> t.insert(1, 3)));
        r.add(new Refused("remove(-1, 0, 1)", UNKNOWN, t -> t.remove(-1, 0, 1)));
        r.add(new Refused("remove(0, 6, 1)", UNKNOWN, t -> t.remove(0, 6, 1)));
        r.add(new Refused("remove(0, 0, 0)", OUTSIDE, t -> t.remove(0, 0, 0)));
        r.add(new Refused("remove(0, 5, 2)", OUTSIDE, t -> t.remove(0, 5, 2)));
        r.add(new Refused("remove(0, 5, MAX)", OUTSIDE, t -> t.remove(0, 5, MAX_VALUE)));
        r.add(new Refused("move(4, 0, 1, 0)", UNKNOWN, t -> t.move(4, 0, 1, 0)));
        r.add(new Refused("move(0, 6, 1, 0)", UNKNOWN, t -> t.move(0, 6, 1, 0)));
        r.add(new Refused("move(0, 5, 2, 0)", OUTSIDE, t -> t.move(0, 5, 2, 0)));
        r.add(new Refused("move(0, 0, 1, 7)", UNKNOWN, t -> t.move(0, 0, 1, 7)));
        r.add(new Refused("move(0, 0, 1, MIN)", UNKNOWN, t -> t.move(0, 0, 1, MIN_VALUE)));
        r.add(new Refused("move(0, 0, 3, 1)", STATE, t -> t.move(0, 0, 3, 1)));
        r.add(new Refused("move(0, 0, 3, 2)", STATE, t -> t.move(0, 0, 3, 2)));
        r.add(new Refused("settle()", STATE, t -> t.settle()));
        return r;
    }

    private static List<Refused> ofOrdinaryAsking() {
        List<Refused> r = new ArrayList<>();
        r.add(new Refused("show(3, true)", UNKNOWN, t -> t.show(3, true)));
        r.add(new Refused("show(-1, false)", UNKNOWN, t -> t.show(-1, false)));
        r.add(new Refused("decide(3, 1)", UNKNOWN, t -> t.decide(3, 1)));
        r.add(new Refused("decide(0, 3)", OUTSIDE, t -> t.decide(0, 3)));
        r.add(new Refused("decide(0, -1)", OUTSIDE, t -> t.decide(0, -1)));
        r.add(new Refused("length(6)", UNKNOWN, t -> t.length(6)));
        r.add(new Refused("read(6, 0, 0)", UNKNOWN, t -> t.read(6, 0, 0)));
        r.add(new Refused("read(0, 9, 0)", UNKNOWN, t -> t.read(0, 9, 0)));
        r.add(new Refused("read(0, 0, 6)", OUTSIDE, t -> t.read(0, 0, 6)));
        r.add(new Refused("place(8, 0)", UNKNOWN, t -> t.place(8, 0)));
        r.add(new Refused("place(0, 4)", OUTSIDE, t -> t.place(0, 4)));
        r.add(new Refused("change(3, 0)", UNKNOWN, t -> t.change(3, 0)));
        r.add(new Refused("change(0, 7)", OUTSIDE, t -> t.change(0, 7)));
        r.add(new Refused("span(99, 1)", UNKNOWN, t -> t.span(99, 1)));
        r.add(new Refused("span(0, 4)", OUTSIDE, t -> t.span(0, 4)));
        r.add(new Refused("found(2)", OUTSIDE, t -> t.found(2)));
        r.add(new Refused("count(9)", OUTSIDE, t -> t.count(9)));
        return r;
    }

    private static List<Refused> ofFullLetters() {
        List<Refused> r = new ArrayList<>();
        r.add(new Refused("insert(0, 0)", FULL, t -> t.insert(0, 0)));
        r.add(new Refused("insert(3, 40)", FULL, t -> t.insert(3, 40)));
        r.add(new Refused("move(0, 0, 27, 64)", FULL, t -> t.move(0, 0, 27, 64)));
        return r;
    }

    private static List<Refused> ofFullPlaces() {
        List<Refused> r = new ArrayList<>();
        r.add(new Refused("insert(0, 0)", FULL, t -> t.insert(0, 0)));
        r.add(new Refused("insert(1, 40)", FULL, t -> t.insert(1, 40)));
        r.add(new Refused("move(0, 0, 1, 50)", FULL, t -> t.move(0, 0, 1, 50)));
        r.add(new Refused("move(1, 0, 40, 0)", FULL, t -> t.move(1, 0, 40, 0)));
        return r;
    }

    private static List<Refused> ofFullChanges() {
        List<Refused> r = new ArrayList<>();
        r.add(new Refused("insert(0, 0)", FULL, t -> t.insert(0, 0)));
        r.add(new Refused("remove(0, 0, 1)", FULL, t -> t.remove(0, 0, 1)));
        r.add(new Refused("move(0, 0, 1, 2)", FULL, t -> t.move(0, 0, 1, 2)));
        r.add(new Refused("show(12, true)", UNKNOWN, t -> t.show(12, true)));
        r.add(new Refused("decide(12, 1)", UNKNOWN, t -> t.decide(12, 1)));
        r.add(new Refused("settle()", STATE, t -> t.settle()));
        return r;
    }

    private static List<Refused> ofFullPage() {
        List<Refused> r = new ArrayList<>();
        r.add(new Refused("letter('z')", FULL, t -> t.letter('z')));
        r.add(new Refused("letter(MIN)", OUTSIDE, t -> t.letter(MIN_VALUE)));
        r.add(new Refused("insert(0, 4)", UNKNOWN, t -> t.insert(0, 4)));
        r.add(new Refused("settle()", STATE, t -> t.settle()));
        return r;
    }
}
