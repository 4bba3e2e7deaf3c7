/** As many of all as there may be: 8 NODES, 16 LETTERS, a COPY of each in all NODES that may have one; 24 MEETINGS. */
final class MostTest {
    private static final int FULL = SprayedLetters.FULL;
    private static final int NONE = SprayedLetters.NONE;
    private static final Check check = new Check();

    public static void main(String[] args) {
        allInAllNodes();
        allCured();
        allExpire();
        fifteenGoForOne();
        fifteenStayForOne();
        notesOfAllInAll();
        mostMeetings();
        mostMeetingsAndNodes();
        check.finish();
    }

    /** All letters are from 0 to 1, six great, and the other six nodes have got them by floods. */
    private static SprayedLetters flooded(int letters) {
        SprayedLetters x = Check.told("node 99;".repeat(8));
        x.set(1, 0);
        for (int l = 0; l < letters; l++) {
            x.send(0, 1, 6, 1, 9);
        }
        for (int n = 2; n < 8; n++) {
            check.due("all come to " + n, x.meet(n - (n == 2 ? 2 : 1), n, 99), letters);
        }
        return x;
    }

    private static void allInAllNodes() {
        SprayedLetters x = flooded(16);
        check.due("copies", x.rule(8), 7 * 16);
        check.due("the 17th", x.send(0, 1, 1, 1, 1), FULL);
        for (int n = 0; n < 8; n++) {
            check.due("load of " + n, x.node(n, 1), n == 1 ? 0 : 96);
            check.due("copies of " + n, x.node(n, 2), n == 1 ? 0 : 16);
            check.due("the last copy of " + n, x.copy(n, 15, 0), n == 1 ? NONE : 15);
            check.due("its hops", x.copy(n, 15, 2), n == 0 ? 0 : n == 1 ? NONE : n - 1);
            check.due("no more in " + n, x.copy(n, 16, 0), NONE);
        }
        for (int l = 0; l < 16; l++) {
            check.due("copies of letter " + l, x.letter(l, 9), 7);
            check.due("tokens of letter " + l, x.letter(l, 10), 7);
            check.due("known", x.why(7, 6, l, 99), 1);
            check.due("to the receiver", x.why(7, 1, l, 6), 0);
        }
    }

    private static void allCured() {
        SprayedLetters x = flooded(16);
        check.due("all are there", x.meet(7, 1, 96), 16);
        check.due("delivered", x.rule(10), 16);
        check.due("cured so far", x.rule(12), 0);
        check.due("all are cured", x.meet(6, 7, 99), 0);
        check.due("cured", x.rule(12), 16);
        for (int n = 0; n < 6; n++) {
            if (n != 1) {
                x.meet(1, n, 0);
            }
        }
        check.due("cured", x.rule(12), 6 * 16);
        check.due("no copies", x.rule(8), 0);
        check.due("hops", x.letter(0, 8) * 10 + x.letter(15, 8), 77);
    }

    private static void allExpire() {
        SprayedLetters x = flooded(16);
        x.tick(8);
        check.due("none yet", x.rule(13), 0);
        x.tick(1);
        check.due("all", x.rule(13), 7 * 16);
        check.due("gone", x.letter(0, 6) * 10 + x.letter(15, 6), 33);
    }

    private static void fifteenGoForOne() {
        for (int policy = 1; policy < 4; policy++) {
            SprayedLetters x = flooded(15);
            x.set(2, policy);
            check.due("the 16th", x.send(7, 1, 99, 2, 9), 15);
            check.due("all others go", x.rule(11), 15);
            check.due("alone", x.node(7, 2) * 100 + x.node(7, 1), 199);
            check.due("handed to 6", x.meet(7, 6, 99), 1);
            check.due("all others go", x.rule(11), 30);
            check.due("alone", x.node(6, 2) * 100 + x.node(6, 1), 199);
            check.due("not to 0, whose own they are", x.why(6, 0, 15, 99), 7);
        }
    }

    private static void fifteenStayForOne() {
        SprayedLetters x = flooded(15);
        check.due("just so great", x.send(7, 1, 9, 2, 9), 15);
        check.due("none goes", x.rule(11), 0);
        check.due("full", x.node(7, 1), 99);
        check.due("to 6", x.meet(6, 7, 9), 1);
        check.due("none goes", x.rule(11), 0);
        check.due("the last by letter has fewest hops", x.copy(7, 0, 0) * 10 + x.copy(7, 0, 2), 150);
        check.due("in 6 it has 1 hop, as they have 5", x.copy(6, 0, 0) * 10 + x.copy(6, 15, 2), 155);
    }

    private static void notesOfAllInAll() {
        SprayedLetters x = flooded(16);
        x.meet(0, 1, 99);
        for (int n = 2; n < 8; n++) {
            x.meet(n, 0, 0);
        }
        for (int n = 0; n < 8; n++) {
            check.due("notes of " + n, x.node(n, 3), 16);
            for (int l = 0; l < 16; l++) {
                check.due("note(" + n + ", " + l + ")", x.note(n, l), 1);
            }
            check.due("met " + n, x.node(n, 4), n == 0 ? 7 : n == 1 ? 1 : n == 2 ? 2 : n == 7 ? 2 : 3);
        }
    }

    private static void mostMeetings() {
        SprayedLetters x = Check.told("node9;node9;" + "meet1 0 1 9;".repeat(23) + "meet2 0 1 9;");
        check.due("told", x.rule(1), 24);
        check.due("sent", x.send(0, 1, 5, 1, 1), 0);
        check.due("sent", x.send(0, 1, 4, 1, 9), 1);
        check.due("too soon", x.soonest(0), NONE);
        check.due("soonest", x.soonest(1), 1);
        x.tick(1);
        check.due("were", x.rule(15), 23);
        check.due("sent", x.send(1, 0, 5, 1, 2), 2);
        check.due("sent", x.send(1, 0, 4, 1, 1), 3);
        x.meet(0, 1, 9);
        check.due("the last is at 2", x.meeting(23, 4), 2);
        check.due("others are no more", x.meeting(22, 4), NONE);
        x.tick(1);
        check.due("sent at 2", x.send(1, 0, 5, 1, 1), 4);
        check.due("by the last alone", x.soonest(4), 2);
        check.due("were", x.rule(15), 25);
    }

    /** 8 NODES leave THE TAPE bytes for 21 MEETINGS: each of a chain gives on in one MINUTE. */
    private static void mostMeetingsAndNodes() {
        StringBuilder text = new StringBuilder("node9;".repeat(8));
        for (int m = 0; m < 21; m++) {
            text.append("meet1 ").append(m % 7).append(' ').append(m % 7 + 1).append(" 9;");
        }
        check.due("300 bytes", text.length(), 300);
        SprayedLetters x = Check.told(text.toString());
        x.send(0, 7, 9, 64, 9);
        x.send(7, 0, 9, 64, 9);
        check.due("there in one minute", x.soonest(0), 1);
        check.due("against the order only three times one", x.soonest(1), NONE);
        check.due("handed", x.tick(1) > 6);
        check.due("delivered by seven hops, tokens 64 to 1", x.letter(0, 8), 7);
    }
}
