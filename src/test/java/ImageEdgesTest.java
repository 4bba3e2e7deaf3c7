import java.util.List;

/** Promises 21 and 22 at their edges: IMAGES that are not there, that are gone, and what they have and have not. */
final class ImageEdgesTest {
    private static final int BAD = SprayedLetters.BAD;
    private static final int STATE = SprayedLetters.STATE;
    private static final Check check = new Check();

    public static void main(String[] args) {
        imagesThatAreNotThere();
        imagesThatAreGone();
        anImageIsTakenAnew();
        anImageStaysAsItWas();
        allThatThereIs();
        howACopyCame();
        notTheTape();
        notTheImages();
        lettersSentSince();
        whatIsBornAgain();
        imageOfNothing();
        check.finish();
    }

    private static void imagesThatAreNotThere() {
        SprayedLetters x = Check.told("node 9;node 9;");
        x.tick(5);
        for (int k = 0; k < 2; k++) {
            check.due("back(" + k + ")", x.back(k), STATE);
        }
        check.due("back(2)", x.back(2), BAD);
        check.due("back(-1)", x.back(-1), BAD);
        check.due("keep(2)", x.keep(2), BAD);
        check.due("keep(-1)", x.keep(-1), BAD);
        check.due("none by that", x.rule(18), 0);
        check.due("keep(1)", x.keep(1), 0);
        check.due("one", x.rule(18), 1);
        check.due("0 is not 1", x.back(0), STATE);
        check.due("back(1)", x.back(1), 5);
        check.due("keep(0)", x.keep(0), 0);
        check.due("two", x.rule(18), 2);
        check.due("keep(0)", x.keep(0), 1);
        check.due("keep(1)", x.keep(1), 1);
        check.due("two still", x.rule(18), 2);
    }

    private static void imagesThatAreGone() {
        SprayedLetters x = Check.told("node 9;node 9;");
        x.tick(5);
        x.keep(0);
        x.keep(1);
        check.due("a fault", Check.text(x, "node 9;node"), -21);
        check.due("they stay", x.rule(18), 2);
        check.due("back", x.back(0), 5);
        check.due("taken", Check.text(x, "node 9;"), 1);
        check.due("gone", x.rule(18), 0);
        check.due("gone", x.back(0), STATE);
        check.due("gone", x.back(1), STATE);
        check.due("there was none", x.keep(1), 0);
        check.due("an empty text is taken, too", x.text(), 0);
        check.due("gone", x.rule(18), 0);
        check.due("gone", x.back(1), STATE);
    }

    private static void anImageIsTakenAnew() {
        SprayedLetters x = Check.told("node 9;node 9;");
        x.tick(3);
        x.keep(0);
        x.tick(4);
        x.keep(1);
        check.due("clocks", x.back(0) * 10 + x.rule(3), 33);
        check.due("clocks", x.back(1) * 10 + x.rule(3), 77);
        x.tick(1);
        check.due("anew", x.keep(0), 1);
        check.due("as the latest keep", x.back(0), 8);
        check.due("the other one stays", x.back(1), 7);
    }

    private static void anImageStaysAsItWas() {
        Twins.Calls kept = x -> {
            Twins.busy(x);
            x.keep(0);
        };
        List<Integer> before = Twins.whole(kept);
        for (int i = 0; i < 3; i++) {
            int how = i;
            check.due("it has changed", !Twins.whole(x -> {
                kept.on(x);
                change(x, how);
            }).equals(before));
            check.due("as it was, change " + i, Twins.whole(x -> {
                kept.on(x);
                change(x, how);
                check.due("back", x.back(0), 5);
            }).equals(before));
        }
        check.due("as it was, change upon change", Twins.whole(x -> {
            kept.on(x);
            for (int i = 0; i < 3; i++) {
                change(x, i);
                check.due("back", x.back(0), 5);
            }
        }).equals(before));
        check.due("as it was, back upon back", Twins.whole(x -> {
            kept.on(x);
            change(x, 2);
            check.due("back upon back", x.back(0) * 10 + x.back(0), 55);
        }).equals(before));
    }

    private static void change(SprayedLetters x, int how) {
        x.set(0, 1 + how);
        x.set(1, 0);
        x.set(2, 2);
        x.set(3, 8);
        x.send(0, 1, 9, 9, 9);
        x.meet(0, 2, 99);
        x.meet(2, 1, 99);
        x.draw(how, 9);
        x.tick(how + 3);
        if (how == 2) {
            x.keep(1);
        }
    }

    /** Each thing that there is, changed alone behind keep, is back. */
    private static void allThatThereIs() {
        for (int what = 0; what < 4; what++) {
            SprayedLetters x = new SprayedLetters();
            Twins.busy(x);
            int was = x.rule(4 + what);
            x.keep(0);
            x.set(what, was == 0 ? 1 : 0);
            x.back(0);
            check.due("rule " + what, x.rule(4 + what), was);
        }
        Twins.Calls first = x -> {
            Check.text(x, "node 9;node 9;node 9;letter 1 0 1 5 2 9;letter 1 0 2 6 4 2;letter 1 2 0 9 1 9;");
            x.tick(1);
            x.keep(0);
        };
        Twins.Calls then = x -> {
            first.on(x);
            x.meet(0, 1, 9);
            x.meet(0, 2, 99);
            x.meet(1, 2, 1);
            x.tick(3);
            x.keep(1);
        };
        check.due("before", Twins.whole(x -> {
            then.on(x);
            x.back(0);
        }).equals(Twins.whole(first)));
        check.due("after", Twins.whole(x -> {
            then.on(x);
            x.back(0);
            x.back(1);
        }).equals(Twins.whole(then)));
        SprayedLetters x = new SprayedLetters();
        then.on(x);
        x.back(0);
        check.due("no refusal yet", x.refusal(0), STATE);
        check.due("never met", x.last(0, 1), SprayedLetters.NONE);
        check.due("no notes", x.node(0, 3) + x.node(1, 3) + x.node(2, 3), 0);
        check.due("not delivered", x.letter(0, 6) * 10 + x.letter(2, 6), 11);
        check.due("no counts", x.rule(9) + x.rule(10) + x.rule(11) + x.rule(12) + x.rule(13) + x.rule(15) + x.rule(16), 0);
        x.back(1);
        check.due("delivered", x.letter(0, 6) * 10 + x.letter(2, 6), 22);
    }

    /** A COPY goes, and comes to the same NODE again in another way: the IMAGE has how it came first. */
    private static void howACopyCame() {
        SprayedLetters x = Check.told("node 99;node 99;node 99;node 99;");
        x.send(0, 3, 5, 16, 60);
        x.tick(2);
        x.meet(0, 1, 9);
        x.keep(0);
        x.set(2, 2);
        x.send(1, 0, 99, 1, 2);
        check.due("it was dropped", x.node(1, 2) * 10 + x.rule(11), 11);
        x.tick(3);
        x.meet(0, 2, 9);
        x.meet(2, 1, 9);
        x.keep(1);
        int[][] due = {{0, 8, 1, 2}, {0, 2, 2, 5}};
        for (int i = 0; i < 4; i++) {
            x.back(i % 2);
            for (int what = 0; what < 4; what++) {
                check.due("image " + i % 2 + ", copy(1, 0, " + what + ")", x.copy(1, 0, what), due[i % 2][what]);
            }
        }
    }

    private static void notTheTape() {
        SprayedLetters x = Check.told("node 9;node 9;");
        Check.feed(x, "node");
        x.keep(0);
        Check.feed(x, " 5;");
        check.due("back", x.back(0), 0);
        check.due("the tape stays", x.rule(17), 7);
        x.end(0);
        check.due("back", x.back(0), 0);
        check.due("the tape stays empty", x.rule(17), 0);
        Check.feed(x, "node 6;");
        x.keep(0);
        x.back(0);
        check.due("its bytes stay", x.text(), 1);
        check.due("room", x.node(0, 0), 6);
    }

    private static void notTheImages() {
        SprayedLetters x = Check.told("node 9;node 9;");
        x.keep(0);
        x.tick(2);
        x.keep(1);
        check.due("back to when there was no image 1", x.back(0), 0);
        check.due("it is there", x.rule(18), 2);
        check.due("back(1)", x.back(1), 2);
    }

    private static void lettersSentSince() {
        SprayedLetters x = Check.told("node 99;node 99;");
        check.due("sent", x.send(0, 1, 1, 1, 9), 0);
        x.keep(0);
        for (int l = 1; l < 16; l++) {
            check.due("sent", x.send(0, 1, 2, 1, 9), l);
        }
        check.due("full", x.send(0, 1, 2, 1, 9), SprayedLetters.FULL);
        x.keep(1);
        x.back(0);
        check.due("one letter", x.rule(2), 1);
        check.due("no second", x.letter(1, 0), BAD);
        check.due("load", x.node(0, 1), 1);
        check.due("sent anew", x.send(1, 0, 3, 1, 9), 1);
        check.due("its size", x.letter(1, 3), 3);
        x.back(1);
        check.due("the other's size", x.letter(1, 3), 2);
        check.due("full again", x.send(0, 1, 2, 1, 9), SprayedLetters.FULL);
        check.due("load", x.node(0, 1), 31);
    }

    private static void whatIsBornAgain() {
        SprayedLetters x = Check.told("node 9;node 9;letter 2 0 1 5 3 2;meet 3 0 1 9;");
        x.keep(0);
        for (int i = 0; i < 3; i++) {
            check.due("handed each time", x.tick(3), 1);
            check.due("delivered", x.letter(0, 7), 3);
            check.due("once", x.rule(10), 1);
            x.back(0);
            check.due("not born", x.letter(0, 6), 0);
        }
    }

    private static void imageOfNothing() {
        SprayedLetters x = new SprayedLetters();
        check.due("keep(0)", x.keep(0), 0);
        x.tick(7);
        x.set(0, 5);
        check.due("keep(1)", x.keep(1), 0);
        check.due("back(0)", x.back(0), 0);
        check.due("round", x.rule(4), 0);
        check.due("back(1)", x.back(1), 7);
        check.due("round", x.rule(4), 5);
        check.due("no nodes", x.rule(0), 0);
    }
}
