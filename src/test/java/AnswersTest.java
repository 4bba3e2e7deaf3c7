/** Promises 6 to 13: rule, node, meeting, letter, copy, note, last, soonest. */
final class AnswersTest {
    private static final int BAD = SprayedLetters.BAD;
    private static final int NONE = SprayedLetters.NONE;
    private static final Check check = new Check();

    public static void main(String[] args) {
        wrongNumbers();
        rulesThatCount();
        nodes();
        meetingsThatComeRound();
        lettersAndTheirStates();
        copiesByOrder();
        notesAndLast();
        soonest();
        check.finish();
    }

    private static void wrongNumbers() {
        SprayedLetters x = Check.told("node 9;node 9;letter 1 0 1 1 1 9;meet 5 0 1 9;");
        int[] wrong = {-1, Integer.MIN_VALUE, Integer.MAX_VALUE, 100, 2};
        for (int w : wrong) {
            check.due("node(" + w + ", 0)", x.node(w, 0), BAD);
            check.due("meeting(" + w + ", 0)", x.meeting(w, 0), BAD);
            check.due("letter(" + w + ", 0)", x.letter(w, 0), BAD);
            check.due("copy(" + w + ", 0, 0)", x.copy(w, 0, 0), BAD);
            check.due("note(" + w + ", 0)", x.note(w, 0), BAD);
            check.due("note(0, " + w + ")", x.note(0, w), BAD);
            check.due("last(" + w + ", 0)", x.last(w, 0), BAD);
            check.due("last(0, " + w + ")", x.last(0, w), BAD);
            check.due("soonest(" + w + ")", x.soonest(w), BAD);
        }
        check.due("meeting(1, 0)", x.meeting(1, 0), BAD);
        check.due("letter(1, 0)", x.letter(1, 0), BAD);
        check.due("last(1, 1)", x.last(1, 1), BAD);
        for (int w : new int[] {-1, 19, Integer.MIN_VALUE, Integer.MAX_VALUE}) {
            check.due("rule(" + w + ")", x.rule(w), BAD);
        }
        for (int w : new int[] {-1, 5, Integer.MIN_VALUE}) {
            check.due("node(0, " + w + ")", x.node(0, w), BAD);
            check.due("meeting(0, " + w + ")", x.meeting(0, w), BAD);
        }
        check.due("letter(0, 11)", x.letter(0, 11), BAD);
        check.due("letter(0, -1)", x.letter(0, -1), BAD);
        check.due("copy(0, -1, 0)", x.copy(0, -1, 0), BAD);
        check.due("copy(0, 0, 4)", x.copy(0, 0, 4), BAD);
        check.due("copy(0, 0, -1)", x.copy(0, 0, -1), BAD);
        check.due("copy(0, 0, 0)", x.copy(0, 0, 0), NONE);
        check.due("copy(0, MAX, 0)", x.copy(0, Integer.MAX_VALUE, 0), NONE);
    }

    private static void rulesThatCount() {
        // In minute 2 letter 0 is delivered and 1 comes to node 1; in minute 3 it is dropped there for 2.
        SprayedLetters x = Check.told("node 50;node 20;node 50;letter 1 0 1 10 4 30;letter 1 0 2 20 4 30;"
                + "letter 3 2 0 15 4 5;letter 4 1 0 21 1 9;meet 2 0 1 90;meet 3 2 1 90;");
        check.due("tick(2)", x.tick(2), 2);
        check.due("copies", x.rule(8), 2);
        check.due("handed", x.rule(9), 2);
        check.due("delivered", x.rule(10), 1);
        check.due("dropped", x.rule(11), 0);
        check.due("minutes", x.rule(16), 1);
        check.due("tick(1)", x.tick(1), 1);
        check.due("copies", x.rule(8), 3);
        check.due("handed", x.rule(9), 3);
        check.due("delivered", x.rule(10), 1);
        check.due("dropped", x.rule(11), 1);
        check.due("minutes", x.rule(16), 1);
        check.due("meetings", x.rule(15), 2);
        check.due("lost", x.rule(14), 0);
        check.due("tick(1)", x.tick(1), 0);
        check.due("lost", x.rule(14), 1);
        check.due("gone", x.letter(3, 6), 3);
        check.due("expired", x.rule(13), 0);
        check.due("tick(4)", x.tick(4), 0);
        check.due("expired", x.rule(13), 2);
        check.due("clock", x.rule(3), 8);
        check.due("sent", x.send(1, 0, 9, 2, 9), 4);
        check.due("meet", x.meet(1, 2, 99), 1);
        check.due("meet", x.meet(1, 0, 99), 2);
        check.due("minutes summed", x.rule(16), 1);
        check.due("cured", x.rule(12), 0);
        check.due("meet", x.meet(2, 0, 0), 0);
        check.due("cured", x.rule(12), 1);
        check.due("delivered", x.rule(10), 2);
        check.due("meetings by hand, too", x.rule(15), 5);
        check.due("copies", x.rule(8), 2);
        check.due("at the receiver", x.meet(2, 1, 20), 1);
        check.due("minutes summed", x.rule(16), 8);
    }

    private static void nodes() {
        SprayedLetters x = Check.told("node 50;node 0;node 99;letter 1 0 1 10 4 30;letter 1 0 2 20 4 30;");
        check.due("room", x.node(0, 0), 50);
        check.due("room", x.node(1, 0), 0);
        check.due("room", x.node(2, 0), 99);
        check.due("load", x.node(0, 1), 0);
        x.tick(1);
        check.due("load", x.node(0, 1), 30);
        check.due("copies", x.node(0, 2), 2);
        check.due("notes", x.node(0, 3), 0);
        check.due("met", x.node(0, 4), 0);
        x.meet(0, 1, 99);
        x.meet(1, 0, 99);
        check.due("load", x.node(0, 1), 20);
        check.due("copies", x.node(0, 2), 1);
        check.due("notes", x.node(0, 3), 1);
        check.due("notes", x.node(1, 3), 1);
        check.due("notes", x.node(2, 3), 0);
        check.due("met", x.node(0, 4), 1);
        x.meet(2, 0, 99);
        check.due("met", x.node(0, 4), 2);
        check.due("met", x.node(1, 4), 1);
        check.due("notes", x.node(0, 3), 2);
        check.due("notes", x.node(2, 3), 2);
        check.due("load", x.node(0, 1), 0);
    }

    private static void meetingsThatComeRound() {
        SprayedLetters x = Check.told("node 9;node 9;meet 3 0 1 9;meet 5 1 0 8;");
        check.due("next", x.meeting(0, 4), 3);
        x.tick(2);
        check.due("next", x.meeting(0, 4), 3);
        x.tick(1);
        check.due("never more", x.meeting(0, 4), NONE);
        check.due("next", x.meeting(1, 4), 5);
        x.set(0, 7);
        check.due("a round later", x.meeting(0, 4), 10);
        check.due("the first", x.meeting(1, 4), 5);
        x.set(0, 1);
        check.due("each minute", x.meeting(0, 4), 4);
        x.tick(10);
        check.due("each minute", x.meeting(0, 4), 14);
        check.due("how many were", x.rule(15), 1 + 10 + 9);
        x.set(0, 99);
        check.due("a long round", x.meeting(1, 4), 104);
        x.set(0, 0);
        check.due("no round", x.meeting(1, 4), NONE);
        x.set(0, 5);
        check.due("next of 3 by 5, at 13", x.meeting(0, 4), 18);
        check.due("next of 5 by 5, at 13", x.meeting(1, 4), 15);
    }

    private static void lettersAndTheirStates() {
        SprayedLetters x = Check.told("node 50;node 50;node 50;letter 2 0 1 10 5 9;letter 2 0 2 11 7 1;");
        check.due("not born", x.letter(0, 6), 0);
        check.due("no copies", x.letter(0, 9), 0);
        x.tick(1);
        check.due("not born", x.letter(0, 6), 0);
        x.tick(1);
        check.due("born", x.letter(0, 6), 1);
        check.due("copies", x.letter(0, 9), 1);
        check.due("tokens", x.letter(0, 10), 5);
        check.due("not there", x.letter(0, 7), NONE);
        check.due("not there", x.letter(0, 8), NONE);
        check.due("handed", x.meet(0, 2, 99), 2);
        check.due("copies", x.letter(0, 9), 2);
        check.due("tokens", x.letter(0, 10), 5);
        check.due("half of five", x.copy(2, 0, 1), 2);
        check.due("delivered", x.letter(1, 6), 2);
        check.due("when", x.letter(1, 7), 2);
        check.due("hops", x.letter(1, 8), 1);
        check.due("no copies", x.letter(1, 9), 0);
        x.tick(2);
        check.due("handed", x.meet(2, 1, 99), 1);
        check.due("delivered though there are copies", x.letter(0, 6), 2);
        check.due("when", x.letter(0, 7), 4);
        check.due("hops", x.letter(0, 8), 2);
        check.due("copies", x.letter(0, 9), 1);
        check.due("tokens", x.letter(0, 10), 3);
        check.due("a letter more", x.send(0, 1, 1, 1, 1), 2);
        check.due("it is", x.letter(2, 6), 1);
        x.tick(1);
        check.due("it is gone", x.letter(2, 6), 3);
        check.due("tick", x.tick(6), 0);
        check.due("still delivered", x.letter(0, 6), 2);
        check.due("expired", x.letter(0, 9), 0);
    }

    private static void copiesByOrder() {
        SprayedLetters x = Check.told("node 90;node 90;node 90;letter 1 1 2 5 8 50;letter 2 0 2 6 4 50;"
                + "letter 2 1 2 7 1 50;letter 1 0 2 8 2 50;meet 1 0 1 99;");
        x.tick(3);
        int[][] due = {{1, 4, 0, 2}, {3, 1, 0, 1}, {0, 4, 1, 1}};
        for (int i = 0; i < due.length; i++) {
            for (int what = 0; what < 4; what++) {
                check.due("copy(0, " + i + ", " + what + ")", x.copy(0, i, what), due[i][what]);
            }
        }
        check.due("not so many", x.copy(0, 3, 0), NONE);
        check.due("bad ahead of none", x.copy(0, 3, 4), BAD);
        check.due("least letter of like hops", x.copy(1, 0, 0), 0);
        check.due("then", x.copy(1, 1, 0), 2);
        check.due("then that of 1 hop", x.copy(1, 2, 0), 3);
    }

    private static void notesAndLast() {
        SprayedLetters x = Check.told("node 9;node 9;node 9;letter 1 0 1 1 1 9;");
        check.due("never met", x.last(0, 1), NONE);
        x.meet(1, 0, 0);
        check.due("met at 0", x.last(0, 1), 0);
        check.due("both ways", x.last(1, 0), 0);
        check.due("others not", x.last(0, 2), NONE);
        check.due("no note", x.note(0, 0), 0);
        x.tick(4);
        x.meet(0, 1, 9);
        check.due("met at 4", x.last(1, 0), 4);
        check.due("note of the giver", x.note(0, 0), 1);
        check.due("note of the taker", x.note(1, 0), 1);
        check.due("no note of the third", x.note(2, 0), 0);
        x.meet(2, 0, 0);
        check.due("told on", x.note(2, 0), 1);
        x.tick(50);
        check.due("it stays", x.note(2, 0), 1);
        check.due("last stays", x.last(1, 0), 4);
    }

    private static void soonest() {
        SprayedLetters x = Check.told("node 0;node 0;node 0;node 0;letter 3 0 2 9 1 5;letter 3 0 3 9 1 5;letter 3 0 2 9 1 4;"
                + "letter 1 1 2 9 1 2;meet 2 0 1 0;meet 3 1 2 0;meet 3 0 1 0;meet 7 1 2 0;");
        check.due("by order in a minute, and at the end of its life", x.soonest(0), 7);
        check.due("to whom nobody goes", x.soonest(1), NONE);
        check.due("too late by one", x.soonest(2), NONE);
        check.due("ahead of its end", x.soonest(3), NONE);
        x.set(0, 4);
        check.due("by rounds, still too late", x.soonest(2), NONE);
        check.due("by rounds", x.soonest(0), 7);
        x.set(0, 1);
        check.due("by each minute, by order", x.soonest(0), 3);
        check.due("by each minute, by order", x.soonest(2), 3);
        x.set(0, 0);
        x.tick(50);
        check.due("those that have been, too", x.soonest(0), 7);
        check.due("sent", x.send(0, 1, 9, 1, 99), 4);
        check.due("never more", x.soonest(4), NONE);
        x.set(0, 50);
        check.due("2 and 50 is 52", x.soonest(4), 52);
        check.due("whoever of both has it", Check.told("node 9;node 9;letter 1 1 0 1 1 9;meet 3 0 1 0;").soonest(0), 3);
        SprayedLetters y = Check.told("node 9;node 9;meet 2 0 1 9;");
        y.tick(2);
        y.send(0, 1, 9, 1, 1);
        check.due("in the minute of its birth", y.soonest(0), 2);
        y.tick(1);
        y.send(1, 0, 9, 1, 1);
        check.due("a minute too late", y.soonest(1), NONE);
    }
}
