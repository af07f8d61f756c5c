import static java.lang.Integer.MAX_VALUE;
import static java.lang.Integer.MIN_VALUE;

/** "A number handed to a call may be any int": calls with mixtures of numbers about their bounds, in several states. */
public final class ExtremesTest {
    private static final int SCENES = 5, LIFE = 512;
    private static final int[] NUMBERS = {
        MIN_VALUE, MIN_VALUE + 1, -1001, -1, 0, 1, 2, 3, 4, 5, 6, 7, 8, 9, 11, 12, 13, 39, 40, 41, 63, 64, 65, 89, 90, 91, MAX_VALUE - 1, MAX_VALUE};
    private static final int[] FEW = {MIN_VALUE, -1, 0, 1, 2, 4, 5, 26, 40, 64, 65, MAX_VALUE};
    private static final int[] AUTHORS = {MIN_VALUE, -1, 0, 1, 3, 4, MAX_VALUE};
    private static final Check CHECK = new Check();

    public static void main(String[] args) {
        for (int scene = 0; scene < SCENES; scene++) {
            askOne(scene);
            askTwo(scene);
            askThree(scene);
            insert(scene);
            remove(scene);
            move(scene);
            showAndDecide(scene);
        }
        CHECK.end("ExtremesTest");
    }

    /** A new object, an ordinary one, one that sees nothing, one with a full PAGE and LETTERS, one with all full. */
    private static Both scene(int which) {
        Both b = new Both(CHECK);
        if (which == 1) {
            ordinary(b);
        } else if (which == 2) {
            b.write("abc");
            b.begin();
            b.remove(0, 0, 3);
            b.show(0, true);
        } else if (which > 2) {
            full(b);
            if (which == 4) {
                for (int i = 2; i < 12; i++) {
                    b.remove(i % 4, i, 1);
                    b.decide(i, i % 3);
                }
            }
            b.write(Check.FORTY);
        }
        return b;
    }

    private static void ordinary(Both b) {
        b.write("abcd");
        b.begin();
        b.write("xy");
        b.insert(0, 1);
        b.move(0, 0, 2, 6);
        b.move(1, 0, 1, 3);
        b.remove(3, 1, 2);
        b.show(0, true);
        b.decide(2, 1);
        b.write("bc");
    }

    private static void full(Both b) {
        b.write(Check.FORTY);
        b.begin();
        b.write(Check.FORTY.substring(0, 24));
        b.insert(0, 40);
        b.move(0, 0, 26, 64);
    }

    /** The same object, or, where 512 calls come near, another one in its place. */
    private static Both alive(String call, int scene, Both b) {
        if (b.calls < LIFE - 10) {
            return b;
        }
        unchanged(call, scene, b);
        return scene(scene);
    }

    private static void unchanged(String call, int scene, Both b) {
        CHECK.due(call + " of scene " + scene + " changed what is told", b.x.digest(), scene(scene).x.digest());
    }

    private static void askOne(int scene) {
        Both b = scene(scene);
        for (int i : NUMBERS) {
            b.length(i);
            b.count(i);
            // The model tries all sets slowly.
            if (scene < 4 || i < 0 || i > 1) {
                b.found(i);
            }
        }
        unchanged("length, count or found", scene, b);
    }

    private static void askTwo(int scene) {
        Both b = scene(scene);
        for (int i : NUMBERS) {
            for (int what : NUMBERS) {
                b = alive("place, change or span", scene, b);
                b.place(i, what);
                b.change(i, what);
                if (scene < 3 || what < 0 || what > 3 || i < 12 && what > 0) {
                    b.span(i, what);
                }
            }
        }
        unchanged("place, change or span", scene, b);
    }

    private static void askThree(int scene) {
        Both b = scene(scene);
        for (int view : NUMBERS) {
            for (int place : FEW) {
                for (int what : NUMBERS) {
                    b = alive("read", scene, b);
                    b.read(view, place, what);
                }
            }
        }
        unchanged("read", scene, b);
    }

    private static void insert(int scene) {
        Both b = scene(scene);
        for (int code : NUMBERS) {
            if (b.letter(code) >= 0) {
                b = scene(scene);
            }
        }
        for (int author : NUMBERS) {
            for (int at : NUMBERS) {
                b = b.insert(author, at) >= 0 ? scene(scene) : alive("insert", scene, b);
            }
        }
        unchanged("letter or insert", scene, b);
    }

    private static void remove(int scene) {
        Both b = scene(scene);
        for (int author : AUTHORS) {
            for (int from : NUMBERS) {
                for (int n : NUMBERS) {
                    b = b.remove(author, from, n) >= 0 ? scene(scene) : alive("remove", scene, b);
                }
            }
        }
        unchanged("remove", scene, b);
    }

    private static void move(int scene) {
        Both b = scene(scene);
        for (int author : AUTHORS) {
            for (int from : FEW) {
                for (int n : FEW) {
                    for (int to : FEW) {
                        b = b.move(author, from, n, to) >= 0 ? scene(scene) : alive("move", scene, b);
                    }
                }
            }
        }
        unchanged("move", scene, b);
    }

    private static void showAndDecide(int scene) {
        Both b = scene(scene);
        for (int change : NUMBERS) {
            if (b.show(change, false) >= 0 || b.show(change, true) >= 0) {
                b = scene(scene);
            }
            for (int what : NUMBERS) {
                b = b.decide(change, what) >= 0 ? scene(scene) : alive("decide", scene, b);
            }
        }
        unchanged("show or decide", scene, b);
    }
}
