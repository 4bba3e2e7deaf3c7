/** Promises 14 and 15, and the rooms and reasons that they tell of: why, refusal. */
final class ReasonsTest {
    private static final int BAD = SprayedLetters.BAD;
    private static final int NONE = SprayedLetters.NONE;
    private static final int STATE = SprayedLetters.STATE;
    private static final Check check = new Check();

    public static void main(String[] args) {
        wrongNumbers();
        known();
        waitsByMode();
        waitsByFocus();
        narrow();
        rooms();
        policies();
        refusals();
        check.finish();
    }

    private static void wrongNumbers() {
        SprayedLetters x = Check.told("node 9;node 9;node 9;letter 1 0 1 1 2 9;letter 5 0 1 1 2 9;");
        x.tick(1);
        check.due("why", x.why(0, 1, 0, 0), 3);
        check.due("why(0, 0)", x.why(0, 0, 0, 9), BAD);
        check.due("why(-1, ..)", x.why(-1, 1, 0, 9), BAD);
        check.due("why(3, ..)", x.why(3, 1, 0, 9), BAD);
        check.due("why(0, -1, ..)", x.why(0, -1, 0, 9), BAD);
        check.due("why(0, 3, ..)", x.why(0, 3, 0, 9), BAD);
        check.due("why(0, 1, -1, ..)", x.why(0, 1, -1, 9), BAD);
        check.due("why(0, 1, 2, ..)", x.why(0, 1, 2, 9), BAD);
        check.due("no copy yet", x.why(0, 1, 1, 9), BAD);
        check.due("no copy there", x.why(1, 0, 0, 9), BAD);
        check.due("why(.., -1)", x.why(0, 1, 0, -1), BAD);
        check.due("why(.., 100)", x.why(0, 1, 0, 100), BAD);
        check.due("why(.., 99)", x.why(0, 1, 0, 99), 0);
        check.due("refusal(-1)", x.refusal(-1), BAD);
        check.due("refusal(6)", x.refusal(6), BAD);
        check.due("refusal(5)", x.refusal(5), STATE);
    }

    private static void known() {
        SprayedLetters x = Check.told("node 9;node 9;node 9;letter 1 0 2 5 4 9;meet 1 0 1 9;");
        check.due("handed", x.tick(1), 1);
        check.due("known", x.why(0, 1, 0, 0), 1);
        check.due("known", x.why(1, 0, 0, 0), 1);
        x.set(1, 3);
        check.due("known ahead of wait", x.why(0, 1, 0, 9), 1);
        check.due("nobody refuses the receiver", x.why(0, 2, 0, 9), 0);
    }

    private static void waitsByMode() {
        SprayedLetters x = Check.told("node 9;node 9;node 9;letter 1 0 2 5 1 9;letter 1 0 2 4 2 9;");
        x.tick(1);
        int[][] due = {{0, 0}, {2, 0}, {2, 0}, {2, 2}};
        for (int mode = 0; mode < 4; mode++) {
            x.set(1, mode);
            for (int l = 0; l < 2; l++) {
                check.due("mode " + mode + " letter " + l, x.why(0, 1, l, 9), due[mode][l]);
                check.due("mode " + mode + " to the receiver", x.why(0, 2, l, 9), 0);
            }
        }
        check.due("wait ahead of narrow", x.why(0, 1, 0, 0), 2);
        check.due("mode 3 hands none on", x.meet(0, 1, 99), 0);
        check.due("mode 3 to the receiver", x.meet(2, 0, 5), 1);
    }

    private static void waitsByFocus() {
        SprayedLetters x = Check.told("node 9;node 9;node 9;letter 3 0 2 5 1 60;");
        x.set(1, 2);
        x.meet(1, 2, 0);
        x.tick(3);
        check.due("0 is 1 above none", x.why(0, 1, 0, 9), 0);
        x.set(3, 1);
        check.due("not by more than 1", x.why(0, 1, 0, 9), 2);
        x.tick(1);
        x.meet(0, 2, 0);
        x.set(3, 0);
        check.due("giver met later", x.why(0, 1, 0, 9), 2);
        x.meet(1, 2, 0);
        check.due("at once", x.why(0, 1, 0, 9), 2);
        x.tick(3);
        x.meet(2, 1, 0);
        check.due("later by 3", x.why(0, 1, 0, 9), 0);
        x.set(3, 2);
        check.due("later by more than 2", x.why(0, 1, 0, 9), 0);
        x.set(3, 3);
        check.due("not by more than 3", x.why(0, 1, 0, 9), 2);
        x.set(3, 0);
        check.due("handed", x.meet(1, 0, 9), 1);
        check.due("the giver's goes", x.copy(0, 0, 0), NONE);
        check.due("with its token", x.copy(1, 0, 1), 1);
        check.due("with a hop", x.copy(1, 0, 2), 1);
        check.due("since now", x.copy(1, 0, 3), 7);
        check.due("it was not dropped", x.rule(11), 0);
    }

    private static void narrow() {
        SprayedLetters x = Check.told("node 50;node 50;node 50;letter 1 0 1 10 1 9;letter 1 0 2 20 4 9;letter 1 1 0 15 1 9;");
        x.tick(1);
        check.due("narrow", x.why(0, 1, 0, 9), 3);
        check.due("wide", x.why(0, 1, 0, 10), 0);
        check.due("what is left is of both ways", x.meet(0, 1, 34), 2);
        check.due("refused", x.refusal(0), 3);
        check.due("comes of none", x.refusal(1), NONE);
        check.due("letter", x.refusal(2), 2);
        check.due("giver", x.refusal(3), 1);
        check.due("taker", x.refusal(4), 0);
        check.due("clock", x.refusal(5), 1);
        check.due("the rest", x.meet(0, 1, 15), 1);
    }

    private static void rooms() {
        SprayedLetters x = Check.told("node 99;node 20;node 99;letter 1 0 2 21 4 50;letter 1 0 2 20 4 50;letter 1 1 2 5 4 50;");
        x.tick(1);
        check.due("small", x.why(0, 1, 0, 99), 5);
        check.due("narrow ahead of small", x.why(0, 1, 0, 20), 3);
        check.due("own", x.why(0, 1, 1, 99), 7);
        x.set(2, 0);
        check.due("small ahead of kept", x.why(0, 1, 0, 99), 5);
        check.due("kept ahead of own", x.why(0, 1, 1, 99), 6);
        check.due("sent", x.send(0, 2, 15, 4, 50), 3);
        check.due("fits just so", x.why(0, 1, 3, 99), 0);
        check.due("handed", x.meet(0, 1, 99), 2);
        check.due("full comes first", x.refusal(0), 4);
        check.due("of small", x.refusal(1), 5);
        check.due("of letter", x.refusal(2), 0);
        check.due("load", x.node(1, 1), 20);
        check.due("lost where it is kept", x.send(1, 0, 1, 1, 9), 4);
        check.due("lost", x.rule(14), 1);
        x.set(2, 1);
        check.due("room is made for one's own", x.send(1, 0, 1, 1, 9), 5);
        check.due("lost", x.rule(14), 1);
        check.due("dropped", x.rule(11), 1);
        check.due("load", x.node(1, 1), 6);
    }

    /** Node 1 has, since 1, 2 and 3, copies of three letters; one more comes: which of them goes. */
    private static void policies() {
        int[] sizes = {10, 12, 12};
        int[] lives = {50, 40, 20};
        int[] gone = {-1, 0, 1, 2};
        for (int policy = 1; policy <= 3; policy++) {
            SprayedLetters x = Check.told("node 99;node 40;node 99;");
            for (int l = 0; l < 3; l++) {
                x.tick(1);
                x.send(0, 2, sizes[l], 4, lives[l]);
                check.due("handed", x.meet(0, 1, 99), 1);
            }
            x.tick(1);
            x.set(2, policy);
            x.send(0, 2, 7, 2, 60);
            check.due("room can be made", x.why(0, 1, 3, 99), 0);
            check.due("nothing is dropped by asking", x.node(1, 2), 3);
            check.due("handed", x.meet(0, 1, 99), 1);
            check.due("dropped", x.rule(11), 1);
            for (int l = 0; l < 3; l++) {
                check.due("policy " + policy + " letter " + l, x.letter(l, 9), l == gone[policy] ? 1 : 2);
            }
        }
        SprayedLetters x = Check.told("node 99;node 40;node 99;");
        x.send(0, 2, 10, 2, 9);
        x.send(0, 2, 10, 2, 9);
        x.send(1, 2, 10, 2, 9);
        x.meet(0, 1, 99);
        x.set(2, 3);
        x.send(0, 2, 30, 2, 9);
        check.due("more than one goes", x.meet(0, 1, 99), 1);
        check.due("dropped", x.rule(11), 2);
        check.due("its own stays", x.copy(1, 0, 0), 2);
        check.due("and the new one", x.copy(1, 1, 0), 3);
        SprayedLetters y = Check.told("node 99;node 40;node 99;");
        y.send(0, 2, 20, 2, 9);
        y.send(0, 2, 20, 2, 9);
        y.meet(0, 1, 99);
        y.send(0, 2, 5, 2, 9);
        y.meet(0, 1, 99);
        check.due("of like ones the least letter", y.letter(0, 9), 1);
        check.due("not the next", y.letter(1, 9), 2);
    }

    private static void refusals() {
        SprayedLetters x = Check.told("node 50;node 50;node 50;letter 1 1 0 10 1 9;letter 1 0 2 20 1 9;letter 1 0 2 9 1 9;");
        x.tick(1);
        check.due("none yet", x.refusal(0), STATE);
        check.due("one handed", x.meet(0, 1, 99), 1);
        int[] due = {2, NONE, 1, 0, 1, 1};
        for (int what = 0; what < 6; what++) {
            check.due("refusal(" + what + ")", x.refusal(what), due[what]);
        }
        x.tick(1);
        x.meet(1, 2, 99);
        check.due("a meeting without one leaves it", x.refusal(5), 1);
        x.meet(2, 0, 20);
        int[] next = {3, NONE, 2, 0, 2, 2};
        for (int what = 0; what < 6; what++) {
            check.due("refusal(" + what + ")", x.refusal(what), next[what]);
        }
        SprayedLetters y = Check.told("node 50;node 50;node 50;letter 1 0 2 10 4 9;meet 1 0 1 99;");
        y.tick(1);
        check.due("what came is offered back", y.refusal(0), 1);
        check.due("by the other", y.refusal(3), 1);
    }
}
