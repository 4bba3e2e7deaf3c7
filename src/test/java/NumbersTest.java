import java.util.List;

/**
 * Every number of every call: the last that is still taken on either side, with its answer, and the first
 * that is not; behind a refused call nothing has changed; of several answers the first that fits.
 */
final class NumbersTest {
    private static final int BAD = SprayedLetters.BAD;
    private static final int STATE = SprayedLetters.STATE;
    private static final int FULL = SprayedLetters.FULL;
    private static final int NONE = SprayedLetters.NONE;
    private static final int LEAST = Integer.MIN_VALUE;
    private static final int GREATEST = Integer.MAX_VALUE;
    private static final Check check = new Check();
    private static final Twins twins = new Twins(check);

    /** A call one of whose numbers is looked at. */
    interface Call {
        int of(SprayedLetters x, int v);
    }

    public static void main(String[] args) {
        constants();
        tape();
        ruleNumbers();
        nodeNumbers();
        meetingNumbers();
        letterNumbers();
        copyNumbers();
        noteLastSoonestNumbers();
        whyNumbers();
        refusalNumbers();
        tickNumbers();
        meetNumbers();
        sendNumbers();
        setNumbers();
        drawNumbers();
        imageNumbers();
        refusedByState();
        refusedAsFull();
        firstThatFits();
        askingChangesNothing();
        newObjectHasNothing();
        check.finish();
    }

    /** Answers at the two bounds are given; beyond them it is BAD. */
    private static void bounds(String name, Twins.Calls made, int[] taken, Call call) {
        int low = taken[0];
        int high = taken[2];
        check.due(name + " at " + low, answer(made, call, low), taken[1]);
        check.due(name + " at " + high, answer(made, call, high), taken[3]);
        twins.refused(name + " at " + (low - 1), made, x -> call.of(x, low - 1), BAD);
        twins.refused(name + " at " + (high + 1), made, x -> call.of(x, high + 1), BAD);
        // Beyond, also those that a byte or a short would cut down to a number that is taken.
        for (int v : new int[] {LEAST, LEAST + low, -1000, low - 256, high + 256, high + 65536, GREATEST}) {
            check.due(name + " at " + v, answer(made, call, v), BAD);
        }
    }

    private static int answer(Twins.Calls made, Call call, int v) {
        SprayedLetters x = new SprayedLetters();
        made.on(x);
        return call.of(x, v);
    }

    private static int[] at(int low, int lowAnswer, int high, int highAnswer) {
        return new int[] {low, lowAnswer, high, highAnswer};
    }

    /** Eight nodes, one letter from the last to the first, and one back, both born. */
    private static void eight(SprayedLetters x) {
        Check.text(x, "node 9;node 1;node 2;node 3;node 4;node 5;node 6;node 8;letter 1 7 0 5 6 9;letter 1 0 7 4 3 9;"
                + "meet 1 6 7 0;");
        x.tick(1);
    }

    /** As many meetings as there may be. */
    private static void meetings(SprayedLetters x) {
        Check.text(x, "node9;node9;meet5 1 0 3;" + "meet1 0 1 1;".repeat(22) + "meet7 0 1 2;");
    }

    private static void constants() {
        check.due("BAD", SprayedLetters.BAD, -1);
        check.due("STATE", SprayedLetters.STATE, -2);
        check.due("FULL", SprayedLetters.FULL, -3);
        check.due("NONE", SprayedLetters.NONE, -4);
    }

    private static void tape() {
        bounds("feed(c)", x -> { }, at(0, 1, 127, 1), (x, v) -> x.feed(v));
        bounds("feed(c), busy", Twins::busy, at(0, 7, 127, 7), (x, v) -> x.feed(v));
        bounds("end(n) of none", x -> { }, at(0, 0, 0, 0), (x, v) -> x.end(v));
        bounds("end(n) of 6", Twins::busy, at(0, 6, 6, 6), (x, v) -> x.end(v));
        bounds("end(n) of 300", Twins::full, at(0, 300, 300, 300), (x, v) -> x.end(v));
    }

    private static void ruleNumbers() {
        bounds("rule(what)", Twins::busy, at(0, 4, 18, 2), (x, v) -> x.rule(v));
        bounds("rule(what), new", x -> { }, at(0, 0, 18, 0), (x, v) -> x.rule(v));
    }

    private static void nodeNumbers() {
        bounds("node(n, 0) of 8", NumbersTest::eight, at(0, 9, 7, 8), (x, v) -> x.node(v, 0));
        bounds("node(n, 0) of 4", Twins::busy, at(0, 60, 3, 99), (x, v) -> x.node(v, 0));
        bounds("node(7, what)", NumbersTest::eight, at(0, 8, 4, 1), (x, v) -> x.node(7, v));
        twins.refused("node(0, 0) of none", x -> { }, x -> x.node(0, 0), BAD);
    }

    private static void meetingNumbers() {
        bounds("meeting(m, 0) of 24", NumbersTest::meetings, at(0, 5, 23, 7), (x, v) -> x.meeting(v, 0));
        bounds("meeting(m, 0) of 3", Twins::busy, at(0, 2, 2, 8), (x, v) -> x.meeting(v, 0));
        bounds("meeting(23, what)", NumbersTest::meetings, at(0, 7, 4, 7), (x, v) -> x.meeting(23, v));
        twins.refused("meeting(0, 4) of none", Twins::lonely, x -> x.meeting(0, 4), BAD);
    }

    private static void letterNumbers() {
        bounds("letter(l, 4) of 16", Twins::sixteen, at(0, 1, 15, 16), (x, v) -> x.letter(v, 4));
        bounds("letter(l, 4) of 5", Twins::busy, at(0, 8, 4, 5), (x, v) -> x.letter(v, 4));
        bounds("letter(1, what)", NumbersTest::eight, at(0, 1, 10, 3), (x, v) -> x.letter(1, v));
        twins.refused("letter(0, 0) of none", Twins::lonely, x -> x.letter(0, 0), BAD);
    }

    private static void copyNumbers() {
        bounds("copy(n, 0, 0)", NumbersTest::eight, at(0, 1, 7, 0), (x, v) -> x.copy(v, 0, 0));
        bounds("copy(7, 0, what)", NumbersTest::eight, at(0, 0, 3, 1), (x, v) -> x.copy(7, 0, v));
        for (int i : new int[] {-1, -2, LEAST}) {
            twins.refused("copy(7, " + i + ", 0)", NumbersTest::eight, x -> x.copy(7, i, 0), BAD);
        }
        for (int i : new int[] {1, 2, 15, 16, 17, 256, GREATEST}) {
            twins.refused("copy(7, " + i + ", 0)", NumbersTest::eight, x -> x.copy(7, i, 0), NONE);
        }
        twins.refused("copy(1, 0, 0), none there", NumbersTest::eight, x -> x.copy(1, 0, 0), NONE);
        SprayedLetters x = Check.told("node 99;node 99;");
        for (int l = 0; l < 16; l++) {
            x.send(0, 1, 1, 1 + l, 9);
        }
        check.due("the last of 16", x.copy(0, 15, 1), 16);
        check.due("one more than 16", x.copy(0, 16, 1), NONE);
    }

    private static void noteLastSoonestNumbers() {
        bounds("note(n, 0)", NumbersTest::eight, at(0, 0, 7, 0), (x, v) -> x.note(v, 0));
        bounds("note(0, l)", NumbersTest::eight, at(0, 0, 1, 0), (x, v) -> x.note(0, v));
        bounds("note(1, l) of 16", Twins::sixteen, at(0, 1, 15, 0), (x, v) -> x.note(1, v));
        bounds("last(a, 6)", NumbersTest::eight, at(0, NONE, 7, 1), (x, v) -> x.last(v, 6));
        bounds("last(6, b)", NumbersTest::eight, at(0, NONE, 7, 1), (x, v) -> x.last(6, v));
        for (int n = 0; n < 8; n++) {
            int a = n;
            twins.refused("last(" + a + ", " + a + ")", NumbersTest::eight, x -> x.last(a, a), BAD);
        }
        bounds("soonest(l)", NumbersTest::eight, at(0, NONE, 1, NONE), (x, v) -> x.soonest(v));
        bounds("soonest(l) of 16", Twins::sixteen, at(0, 3, 15, 3), (x, v) -> x.soonest(v));
    }

    private static void whyNumbers() {
        bounds("why(g, 5, 0, 9)", x -> {
            eight(x);
            x.set(1, 0);
            x.meet(7, 6, 99);
        }, at(6, 0, 7, 0), (x, v) -> x.why(v, 5, 0, 9));
        bounds("why(7, h, 0, 9)", NumbersTest::eight, at(0, 0, 6, 0), (x, v) -> x.why(7, v, 0, 9));
        bounds("why(0, h, 1, 9)", NumbersTest::eight, at(1, 5, 7, 0), (x, v) -> x.why(0, v, 1, 9));
        bounds("why(0, 7, l, 9)", NumbersTest::eight, at(1, 0, 1, 0), (x, v) -> x.why(0, 7, v, 9));
        bounds("why(7, 0, l, 9)", NumbersTest::eight, at(0, 0, 0, 0), (x, v) -> x.why(7, 0, v, 9));
        bounds("why(7, 0, 0, w)", NumbersTest::eight, at(0, 3, 99, 0), (x, v) -> x.why(7, 0, 0, v));
        twins.refused("why, g is h", NumbersTest::eight, x -> x.why(7, 7, 0, 9), BAD);
        twins.refused("why, no such copy", NumbersTest::eight, x -> x.why(6, 0, 0, 9), BAD);
        twins.refused("why, the copy is the taker's", NumbersTest::eight, x -> x.why(0, 7, 0, 9), BAD);
        twins.refused("why, not born", x -> Check.text(x, "node 9;node 9;letter 1 0 1 1 1 1;"),
                x -> x.why(0, 1, 0, 9), BAD);
    }

    private static void refusalNumbers() {
        bounds("refusal(what)", Twins::busy, at(0, 2, 5, 3), (x, v) -> x.refusal(v));
        bounds("refusal(what), none", NumbersTest::meetings, at(0, STATE, 5, STATE), (x, v) -> x.refusal(v));
    }

    private static void tickNumbers() {
        bounds("tick(n)", NumbersTest::eight, at(1, 0, 50, 0), (x, v) -> x.tick(v));
        bounds("tick(n), busy", Twins::busy, at(1, 0, 50, 4), (x, v) -> x.tick(v));
        check.due("clock by tick(1)", answer(Twins::busy, (x, v) -> x.tick(v) * 0 + x.rule(3), 1), 6);
        check.due("clock by tick(50)", answer(Twins::busy, (x, v) -> x.tick(v) * 0 + x.rule(3), 50), 55);
    }

    private static void meetNumbers() {
        bounds("meet(a, 0, 9)", NumbersTest::eight, at(1, 0, 7, 2), (x, v) -> x.meet(v, 0, 9));
        bounds("meet(0, b, 9)", NumbersTest::eight, at(1, 0, 7, 2), (x, v) -> x.meet(0, v, 9));
        bounds("meet(a, 7, 9)", NumbersTest::eight, at(0, 2, 6, 1), (x, v) -> x.meet(v, 7, 9));
        bounds("meet(0, 7, w)", NumbersTest::eight, at(0, 0, 99, 2), (x, v) -> x.meet(0, 7, v));
        bounds("meet(0, 3, w), busy", Twins::busy, at(0, 0, 99, 0), (x, v) -> x.meet(0, 3, v));
        for (int n = 0; n < 8; n++) {
            int a = n;
            twins.refused("meet(" + a + ", " + a + ", 9)", NumbersTest::eight, x -> x.meet(a, a, 9), BAD);
        }
        twins.refused("meet, no nodes", x -> { }, x -> x.meet(0, 1, 9), BAD);
        twins.refused("meet, one node", Twins::lonely, x -> x.meet(0, 1, 9), BAD);
    }

    private static void sendNumbers() {
        bounds("send(a, 0, ..)", NumbersTest::eight, at(1, 2, 7, 2), (x, v) -> x.send(v, 0, 1, 1, 1));
        bounds("send(0, b, ..)", NumbersTest::eight, at(1, 2, 7, 2), (x, v) -> x.send(0, v, 1, 1, 1));
        bounds("send(3, b, ..)", NumbersTest::eight, at(0, 2, 7, 2), (x, v) -> x.send(3, v, 1, 1, 1));
        bounds("send(.. size ..)", NumbersTest::eight, at(1, 2, 99, 2), (x, v) -> x.send(0, 7, v, 1, 1));
        bounds("send(.. tokens ..)", NumbersTest::eight, at(1, 2, 64, 2), (x, v) -> x.send(0, 7, 1, v, 1));
        bounds("send(.. life)", NumbersTest::eight, at(1, 2, 99, 2), (x, v) -> x.send(0, 7, 1, 1, v));
        bounds("send(.. life), busy", Twins::busy, at(1, 5, 99, 5), (x, v) -> x.send(0, 3, 1, 1, v));
        for (int n = 0; n < 8; n++) {
            int a = n;
            twins.refused("send(" + a + ", " + a + ", ..)", NumbersTest::eight, x -> x.send(a, a, 1, 1, 1), BAD);
        }
        twins.refused("send, no nodes", x -> { }, x -> x.send(0, 1, 1, 1, 1), BAD);
        twins.refused("send, one node", Twins::lonely, x -> x.send(0, 1, 1, 1, 1), BAD);
    }

    private static void setNumbers() {
        bounds("set(what, 3)", x -> { }, at(0, 0, 3, 0), (x, v) -> x.set(v, 3));
        bounds("set(what, 0)", Twins::busy, at(0, 6, 3, 1), (x, v) -> x.set(v, 0));
        int[] high = {99, 3, 3, 9};
        int[] was = {6, 2, 3, 1};
        int[] first = {0, 1, 1, 0};
        for (int i = 0; i < 4; i++) {
            int what = i;
            bounds("set(" + what + ", v)", Twins::busy, at(0, was[what], high[what], was[what]), (x, v) -> x.set(what, v));
            bounds("set(" + what + ", v), new", x -> { }, at(0, first[what], high[what], first[what]),
                    (x, v) -> x.set(what, v));
            for (int v = 0; v <= high[what]; v++) {
                SprayedLetters x = new SprayedLetters();
                check.due("it was", x.set(what, v), first[what]);
                check.due("it is", x.rule(4 + what), v);
                check.due("it was", x.set(what, 0), v);
                check.due("the others stay", x.rule(4) + x.rule(5) + x.rule(6) + x.rule(7), 2 - first[what]);
            }
        }
    }

    private static void drawNumbers() {
        bounds("draw(1, n), no letters", NumbersTest::meetings, at(1, 0, 20, 0), (x, v) -> x.draw(1, v));
        // By seed 1 the meeting of minute 6 is of 2 and 0, 13 wide, that of minute 11 of 3 and 0, 83 wide.
        bounds("draw(1, n), busy", Twins::busy, at(1, 1, 20, 2), (x, v) -> x.draw(1, v));
        check.due("clock by draw(.., 1)", answer(Twins::busy, (x, v) -> x.draw(3, v) * 0 + x.rule(3), 1), 6);
        check.due("clock by draw(.., 20)", answer(Twins::busy, (x, v) -> x.draw(3, v) * 0 + x.rule(3), 20), 25);
    }

    private static void imageNumbers() {
        bounds("keep(k)", Twins::busy, at(0, 1, 1, 1), (x, v) -> x.keep(v));
        bounds("keep(k), new", x -> { }, at(0, 0, 1, 0), (x, v) -> x.keep(v));
        bounds("back(k)", Twins::busy, at(0, 1, 1, 4), (x, v) -> x.back(v));
        bounds("back(k), none", NumbersTest::eight, at(0, STATE, 1, STATE), (x, v) -> x.back(v));
    }

    private static void refusedByState() {
        twins.refused("back(0), none", NumbersTest::eight, x -> x.back(0), STATE);
        twins.refused("back(1), none", NumbersTest::eight, x -> x.back(1), STATE);
        twins.refused("back(1), only 0", Twins::sixteen, x -> x.back(1), STATE);
        twins.refused("back(0), only 1", x -> {
            eight(x);
            x.keep(1);
            x.tick(1);
        }, x -> x.back(0), STATE);
        twins.refused("back(0), new", x -> { }, x -> x.back(0), STATE);
        for (int n : new int[] {1, 20}) {
            twins.refused("draw, no nodes", x -> { }, x -> x.draw(5, n), STATE);
            twins.refused("draw, one node", Twins::lonely, x -> x.draw(5, n), STATE);
        }
        check.due("two nodes are enough", Check.told("node 0;node 0;").draw(5, 1), 0);
        twins.refused("refusal, none", NumbersTest::meetings, x -> x.refusal(0), STATE);
        twins.refused("refusal, new", x -> { }, x -> x.refusal(5), STATE);
    }

    private static void refusedAsFull() {
        for (int c : new int[] {0, ' ', ';', 'a', '1', 127}) {
            twins.refused("the 301st byte " + c, Twins::full, x -> x.feed(c), FULL);
        }
        check.due("the 300th byte", answer(x -> {
            Twins.full(x);
            x.end(299);
        }, (x, v) -> x.feed(v), ';'), 300);
        twins.refused("the 17th letter", Twins::sixteen, x -> x.send(0, 1, 1, 1, 1), FULL);
        twins.refused("the 17th letter, though it would not fit", Twins::sixteen, x -> x.send(1, 0, 99, 64, 99), FULL);
        check.due("it is not lost", answer(Twins::sixteen, (x, v) -> x.send(1, 0, 99, 64, 99) * 0 + x.rule(14), 0), 0);
    }

    /** BAD ahead of STATE, of FULL, of NONE. */
    private static void firstThatFits() {
        twins.refused("feed, BAD and FULL", Twins::full, x -> x.feed(128), BAD);
        twins.refused("feed, BAD and FULL", Twins::full, x -> x.feed(-1), BAD);
        twins.refused("send, BAD and FULL: a", Twins::sixteen, x -> x.send(3, 0, 1, 1, 1), BAD);
        twins.refused("send, BAD and FULL: b", Twins::sixteen, x -> x.send(0, 3, 1, 1, 1), BAD);
        twins.refused("send, BAD and FULL: a is b", Twins::sixteen, x -> x.send(2, 2, 1, 1, 1), BAD);
        twins.refused("send, BAD and FULL: size", Twins::sixteen, x -> x.send(0, 1, 100, 1, 1), BAD);
        twins.refused("send, BAD and FULL: tokens", Twins::sixteen, x -> x.send(0, 1, 1, 65, 1), BAD);
        twins.refused("send, BAD and FULL: life", Twins::sixteen, x -> x.send(0, 1, 1, 1, 0), BAD);
        twins.refused("draw, BAD and STATE", x -> { }, x -> x.draw(5, 0), BAD);
        twins.refused("draw, BAD and STATE", Twins::lonely, x -> x.draw(5, 21), BAD);
        twins.refused("back, BAD and STATE", NumbersTest::eight, x -> x.back(2), BAD);
        twins.refused("refusal, BAD and STATE", NumbersTest::meetings, x -> x.refusal(6), BAD);
        twins.refused("copy, BAD and NONE: what", NumbersTest::eight, x -> x.copy(1, 0, 4), BAD);
        twins.refused("copy, BAD and NONE: n", NumbersTest::eight, x -> x.copy(8, 99, 0), BAD);
        twins.refused("last, BAD and NONE", NumbersTest::eight, x -> x.last(3, 3), BAD);
        twins.refused("meeting, BAD", NumbersTest::meetings, x -> x.meeting(24, 4), BAD);
        twins.refused("letter, BAD", NumbersTest::eight, x -> x.letter(2, 7), BAD);
    }

    /** Some questions at a time, so that the object stays within its 512 calls. */
    private static void askingChangesNothing() {
        List<Twins.Asked> all = Twins.questions(true);
        for (Twins.Calls made : List.<Twins.Calls>of(Twins::busy, Twins::sixteen, Twins::full, Twins::lonely, x -> { })) {
            for (int i = 0; i < all.size(); i += 50) {
                List<Twins.Asked> some = all.subList(i, Math.min(i + 50, all.size()));
                twins.alike("asking from question " + i, made, x -> {
                    made.on(x);
                    some.forEach(asked -> asked.of(x));
                }, true);
            }
        }
    }

    private static void newObjectHasNothing() {
        int[] rules = {0, 0, 0, 0, 0, 1, 1, 0, 0, 0, 0, 0, 0, 0, 0, 0, 0, 0, 0};
        for (int what = 0; what < rules.length; what++) {
            check.due("new rule(" + what + ")", new SprayedLetters().rule(what), rules[what]);
        }
        SprayedLetters x = new SprayedLetters();
        check.due("fault()", x.fault(), 0);
        check.due("node(0, 0)", x.node(0, 0), BAD);
        check.due("meeting(0, 0)", x.meeting(0, 0), BAD);
        check.due("letter(0, 0)", x.letter(0, 0), BAD);
        check.due("copy(0, 0, 0)", x.copy(0, 0, 0), BAD);
        check.due("note(0, 0)", x.note(0, 0), BAD);
        check.due("last(0, 1)", x.last(0, 1), BAD);
        check.due("soonest(0)", x.soonest(0), BAD);
        check.due("why(0, 1, 0, 9)", x.why(0, 1, 0, 9), BAD);
        check.due("refusal(0)", x.refusal(0), STATE);
        check.due("minutes go by", x.tick(50), 0);
        check.due("clock", x.rule(3), 50);
        check.due("no meetings were", x.rule(15), 0);
        SprayedLetters y = new SprayedLetters();
        SprayedLetters z = Check.told("node 9;node 9;");
        z.send(0, 1, 1, 1, 9);
        check.due("an object has nothing of another", y.rule(0) + y.rule(2) + y.rule(8), 0);
    }
}
