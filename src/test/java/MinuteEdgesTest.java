/** A MINUTE at its edges: LETTERS at their BIRTH and at their end, MEETINGS by TIME and ROUND, THE SOONEST. */
final class MinuteEdgesTest {
    private static final int NONE = SprayedLetters.NONE;
    private static final Check check = new Check();

    public static void main(String[] args) {
        births();
        endsOfLives();
        endOfWhatWasSent();
        expiredAreCopies();
        endsThenBirthsThenMeetings();
        bornByNumber();
        whatALetterIs();
        meetingsWithoutRound();
        meetingsThatComeRound();
        roundIsAsItIsNow();
        theNextTime();
        meetingsOfAMinuteByNumber();
        someMinutesAreEachOfThem();
        aThousandMinutes();
        soonestFromBirthOn();
        soonestAheadOfTheEnd();
        soonestByOrder();
        soonestByRound();
        soonestLooksAtNothingElse();
        check.finish();
    }

    private static void births() {
        for (int birth : new int[] {1, 2, 50, 99}) {
            SprayedLetters x = Check.told("node 9;node 9;letter " + birth + " 0 1 5 7 9;");
            for (int i = 1; i < birth; i++) {
                x.tick(1);
            }
            check.due("the minute ahead", x.rule(3), birth - 1);
            check.due("not born yet", x.letter(0, 6), 0);
            check.due("no copies", x.rule(8) + x.node(0, 1) + x.letter(0, 9) + x.letter(0, 10), 0);
            x.tick(1);
            check.due("born", x.letter(0, 6), 1);
            int[] copy = {0, 7, 0, birth};
            for (int what = 0; what < 4; what++) {
                check.due("copy(0, 0, " + what + ")", x.copy(0, 0, what), copy[what]);
            }
            x.tick(1);
            check.due("born once", x.letter(0, 9) * 10 + x.copy(0, 0, 3) - birth, 10);
        }
    }

    private static void endsOfLives() {
        for (int life : new int[] {1, 2, 50, 99}) {
            int end = 3 + life;
            for (int late = 0; late < 2; late++) {
                SprayedLetters x = Check.told("node 9;node 9;letter 3 0 1 5 7 " + life + ";");
                for (int i = 1; i < end; i++) {
                    x.tick(1);
                }
                check.due("in its last minute it is there", x.letter(0, 6), 1);
                check.due("not expired", x.rule(13), 0);
                x.tick(late);
                check.due("handed", x.meet(0, 1, 99), 1 - late);
                check.due("what it is", x.letter(0, 6), late == 0 ? 2 : 3);
                check.due("expired", x.rule(13), late);
                check.due("copies", x.rule(8), 0);
                x.tick(1);
                check.due("expired", x.rule(13), late);
            }
        }
        // The MEETING of the last MINUTE, and that of the MINUTE of its end.
        check.due("in its last minute", afterTicks("node 9;node 9;letter 3 0 1 5 7 4;meet 6 0 1 9;", 6, 10), 1);
        check.due("as it ends", afterTicks("node 9;node 9;letter 3 0 1 5 7 4;meet 7 0 1 9;", 7, 10), 0);
        check.due("as it is born", afterTicks("node 9;node 9;letter 3 0 1 5 7 4;meet 3 0 1 9;", 3, 10), 1);
        check.due("ahead of birth", afterTicks("node 9;node 9;letter 3 0 1 5 7 4;meet 2 0 1 9;", 6, 10), 0);
        check.due("the last end there can be", afterTicks("node 9;node 9;letter 99 0 1 5 7 99;", 198, 13), 1);
        check.due("the minute ahead of it", afterTicks("node 9;node 9;letter 99 0 1 5 7 99;", 197, 13), 0);
    }

    private static int afterTicks(String text, int minutes, int rule) {
        SprayedLetters x = Check.told(text);
        for (int i = 0; i < minutes; i++) {
            x.tick(1);
        }
        return x.rule(rule);
    }

    private static void endOfWhatWasSent() {
        SprayedLetters x = Check.told("node 9;node 9;");
        check.due("sent at 0", x.send(0, 1, 1, 1, 1), 0);
        check.due("born at once", x.letter(0, 6), 1);
        check.due("birth", x.letter(0, 0), 0);
        check.due("since", x.copy(0, 0, 3), 0);
        x.tick(1);
        check.due("gone at 1", x.letter(0, 6), 3);
        check.due("sent at 1", x.send(0, 1, 1, 1, 99), 1);
        x.tick(49);
        x.tick(49);
        check.due("clock", x.rule(3), 99);
        check.due("there at 99", x.letter(1, 6), 1);
        x.tick(1);
        check.due("gone at 100", x.letter(1, 6), 3);
        check.due("expired", x.rule(13), 2);
    }

    private static void expiredAreCopies() {
        SprayedLetters x = Check.told("node 99;node 99;node 99;node 99;letter 1 0 3 5 8 9;letter 1 0 3 4 8 8;");
        x.tick(1);
        x.meet(0, 1, 99);
        x.meet(0, 2, 99);
        check.due("copies", x.rule(8), 6);
        x.tick(7);
        check.due("none ends yet", x.rule(13), 0);
        x.tick(1);
        check.due("all three of one letter", x.rule(13), 3);
        check.due("of it alone", x.letter(0, 9) * 10 + x.letter(1, 9), 30);
        x.meet(1, 3, 99);
        check.due("delivered", x.letter(0, 6), 2);
        x.tick(1);
        check.due("the rest of what is delivered, too", x.rule(13), 5);
        check.due("delivered still", x.letter(0, 6), 2);
        check.due("no copies", x.rule(8), 0);
        check.due("none was dropped, cured", x.rule(11) + x.rule(12), 0);
        SprayedLetters y = Check.told("node 9;node 9;letter 1 0 1 10 1 3;");
        y.tick(9);
        check.due("what is lost does not expire", y.rule(13) * 10 + y.rule(14), 1);
    }

    private static void endsThenBirthsThenMeetings() {
        SprayedLetters x = Check.told("node 9;node 9;letter 3 0 1 9 1 5;letter 1 0 1 9 1 2;meet 3 0 1 9;");
        x.set(2, 0);
        check.due("the end gives room to the birth, then they meet", x.tick(3), 1);
        check.due("letter 0", x.letter(0, 6), 2);
        check.due("letter 1", x.letter(1, 6), 3);
        check.due("expired, lost", x.rule(13) * 10 + x.rule(14), 10);
        SprayedLetters y = Check.told("node 9;node 9;letter 3 0 1 9 1 5;letter 1 0 1 9 1 2;meet 3 0 1 9;meet 2 0 1 8;");
        y.tick(2);
        check.due("too narrow", y.refusal(0) * 100 + y.refusal(2) * 10 + y.refusal(5), 312);
        SprayedLetters z = Check.told("node 9;node 9;letter 3 0 1 9 1 5;letter 1 0 1 9 1 3;meet 3 0 1 9;");
        check.due("what is there still leaves no room", z.tick(3), 1);
        check.due("letter 0 is lost", z.letter(0, 6), 3);
        check.due("letter 1 is delivered", z.letter(1, 6), 2);
    }

    private static void bornByNumber() {
        SprayedLetters x = Check.told("node 9;node 9;letter 1 0 1 5 1 9;letter 1 0 1 5 1 9;letter 1 0 1 4 1 9;");
        x.tick(1);
        check.due("0 and 2 fit", x.letter(0, 6) * 100 + x.letter(1, 6) * 10 + x.letter(2, 6), 131);
        check.due("lost", x.rule(14), 1);
        // A COPY that came from another gives way to what is born.
        SprayedLetters y = Check.told("node 9;node 9;node 9;letter 2 1 2 5 1 9;letter 1 0 2 5 2 9;meet 1 0 1 9;");
        y.tick(1);
        check.due("handed", y.letter(1, 9), 2);
        y.tick(1);
        check.due("dropped", y.rule(11) * 10 + y.letter(1, 9), 11);
        check.due("born", y.copy(1, 0, 0) * 10 + y.node(1, 2), 1);
    }

    private static void whatALetterIs() {
        SprayedLetters x = Check.told("node 30;node 30;node 30;letter 2 0 2 5 2 9;letter 2 0 2 31 2 9;");
        check.due("0, 0", x.letter(0, 6) * 10 + x.letter(1, 6), 0);
        x.tick(2);
        check.due("there are copies; it is gone", x.letter(0, 6) * 10 + x.letter(1, 6), 13);
        x.meet(0, 1, 9);
        x.meet(1, 2, 9);
        check.due("delivered, though there are copies", x.letter(0, 6) * 10 + x.letter(0, 9), 21);
        x.tick(9);
        check.due("delivered, and no copies", x.letter(0, 6) * 10 + x.letter(0, 9), 20);
        x.keep(0);
        x.tick(50);
        check.due("for good", x.letter(0, 6) * 10 + x.letter(1, 6), 23);
    }

    private static void meetingsWithoutRound() {
        for (int time : new int[] {1, 2, 50, 99}) {
            SprayedLetters x = Check.told("node 9;node 9;meet " + time + " 0 1 5;");
            for (int minute = 1; minute <= 120; minute++) {
                x.tick(1);
                check.due("at " + minute, x.rule(15), minute < time ? 0 : 1);
            }
            check.due("last", x.last(0, 1), time);
        }
    }

    private static void meetingsThatComeRound() {
        for (int round : new int[] {1, 2, 7, 50, 98, 99}) {
            for (int time : new int[] {1, 5, 99}) {
                SprayedLetters x = Check.told("node 9;node 9;meet " + time + " 0 1 5;");
                x.set(0, round);
                int were = 0;
                int next = time;
                for (int minute = 1; minute <= 210; minute++) {
                    x.tick(1);
                    if (minute == next) {
                        were++;
                        next += round;
                    }
                    check.due("time " + time + ", round " + round + ", at " + minute, x.rule(15), were);
                }
            }
        }
    }

    private static void roundIsAsItIsNow() {
        SprayedLetters x = Check.told("node 9;node 9;meet 3 0 1 5;");
        x.tick(5);
        x.set(0, 3);
        x.tick(1);
        check.due("3 and 3 is 6", x.rule(15), 2);
        x.set(0, 4);
        x.tick(1);
        check.due("3 and 4 is 7", x.rule(15), 3);
        x.set(0, 0);
        x.tick(50);
        check.due("no more", x.rule(15), 3);
        x.set(0, 99);
        x.tick(44);
        check.due("not at 101", x.rule(15), 3);
        x.tick(1);
        check.due("3 and 99 is 102", x.rule(15), 4);
        check.due("last", x.last(1, 0), 102);
    }

    private static void theNextTime() {
        SprayedLetters x = Check.told("node 9;node 9;meet 1 0 1 5;meet 99 0 1 5;meet 50 0 1 5;");
        nexts(x, 1, 99, 50);
        x.tick(1);
        nexts(x, NONE, 99, 50);
        x.set(0, 1);
        nexts(x, 2, 99, 50);
        x.set(0, 99);
        nexts(x, 100, 99, 50);
        x.set(0, 49);
        nexts(x, 50, 99, 50);
        x.tick(48);
        nexts(x, 50, 99, 50);
        x.tick(1);
        nexts(x, 99, 99, 99);
        x.tick(49);
        nexts(x, 148, 148, 148);
        x.set(0, 1);
        nexts(x, 100, 100, 100);
        x.set(0, 50);
        nexts(x, 101, 149, 100);
        x.set(0, 0);
        nexts(x, NONE, NONE, NONE);
    }

    private static void nexts(SprayedLetters x, int... due) {
        for (int m = 0; m < due.length; m++) {
            check.due("at " + x.rule(3) + " by " + x.rule(4) + " meeting(" + m + ", 4)", x.meeting(m, 4), due[m]);
        }
    }

    private static void meetingsOfAMinuteByNumber() {
        String head = "node 9;node 9;node 9;letter 1 0 2 5 4 9;";
        check.due("on at once", afterTicks(head + "meet 1 0 1 9;meet 1 1 2 9;", 1, 10), 1);
        check.due("too late", afterTicks(head + "meet 1 1 2 9;meet 1 0 1 9;", 1, 10), 0);
        // By ROUND, too, the number counts, not the TIME.
        SprayedLetters x = Check.told(head.replace("letter 1", "letter 3") + "meet 3 0 1 9;meet 1 1 2 9;");
        x.set(0, 2);
        x.tick(3);
        check.due("by number", x.letter(0, 7), 3);
        SprayedLetters y = Check.told(head.replace("letter 1", "letter 3") + "meet 1 1 2 9;meet 3 0 1 9;");
        y.set(0, 2);
        y.tick(3);
        check.due("not by number", y.letter(0, 7), NONE);
        y.tick(2);
        check.due("a round later", y.letter(0, 7), 5);
        check.due("the same pair twice in a minute", afterTicks("node 9;node 9;meet 1 0 1 9;meet 1 1 0 9;", 1, 15), 2);
        check.due("24 in a minute", afterTicks("node1;node1;" + "meet1 0 1 1;".repeat(24), 1, 15), 24);
    }

    private static void someMinutesAreEachOfThem() {
        String text = "node 40;node 30;node 50;letter 1 0 2 10 8 30;letter 5 1 0 9 4 20;letter 9 2 1 7 3 9;"
                + "meet 2 0 1 20;meet 3 1 2 15;meet 7 2 0 30;";
        SprayedLetters x = Check.told(text);
        SprayedLetters y = Check.told(text);
        x.set(0, 6);
        y.set(0, 6);
        int handed = 0;
        for (int i = 0; i < 50; i++) {
            handed += x.tick(1);
        }
        check.due("as many", y.tick(50), handed);
        check.due("more than none", handed > 0);
        check.due("handed", x.rule(9), handed);
        for (int what = 0; what <= 18; what++) {
            check.due("rule(" + what + ")", y.rule(what), x.rule(what));
        }
    }

    /** As far as the calls of an object go. */
    private static void aThousandMinutes() {
        SprayedLetters x = new SprayedLetters();
        Check.feed(x, "node9;node9;meet1 0 1 9;");
        x.text();
        x.set(0, 7);
        int calls = 26;
        while (calls < 508) {
            x.tick(50);
            calls++;
        }
        check.due("clock", x.rule(3), 24100);
        check.due("meetings that were", x.rule(15), 3443);
        check.due("last", x.last(0, 1), 24095);
        check.due("next", x.meeting(0, 4), 24102);
    }

    // ---- the soonest

    private static int soonest(String text, int round) {
        SprayedLetters x = Check.told(text);
        x.set(0, round);
        return x.soonest(0);
    }

    private static void soonestFromBirthOn() {
        String letter = "node 9;node 9;letter 5 0 1 5 4 9;";
        check.due("ahead of birth", soonest(letter + "meet 4 0 1 0;", 0), NONE);
        check.due("at birth", soonest(letter + "meet 5 0 1 0;", 0), 5);
        check.due("behind birth", soonest(letter + "meet 6 0 1 0;", 0), 6);
        check.due("the least", soonest(letter + "meet 9 0 1 0;meet 7 1 0 0;meet 8 0 1 0;", 0), 7);
        check.due("no meetings", soonest(letter, 0), NONE);
        SprayedLetters x = Check.told("node 9;node 9;meet 1 0 1 9;");
        x.send(0, 1, 1, 1, 1);
        x.send(0, 1, 1, 1, 2);
        check.due("birth 0, life 1: minute 0 alone", x.soonest(0), NONE);
        check.due("birth 0, life 2", x.soonest(1), 1);
    }

    private static void soonestAheadOfTheEnd() {
        String text = "node 9;node 9;letter 5 0 1 5 4 9;";
        check.due("in the last minute", soonest(text + "meet 13 0 1 0;", 0), 13);
        check.due("as it ends", soonest(text + "meet 14 0 1 0;", 0), NONE);
        check.due("life 1, at birth", soonest("node 9;node 9;letter 5 0 1 5 4 1;meet 5 1 0 0;", 0), 5);
        check.due("life 1, behind birth", soonest("node 9;node 9;letter 5 0 1 5 4 1;meet 6 1 0 0;", 0), NONE);
        check.due("the last there can be", soonest("node 9;node 9;letter 99 0 1 5 4 99;meet 98 1 0 0;", 99), 197);
        check.due("one behind it", soonest("node 9;node 9;letter 99 0 1 5 4 99;meet 99 1 0 0;", 99), 99);
        check.due("one too late", soonest("node 9;node 9;node 9;letter 99 0 1 5 4 99;meet 99 2 1 0;meet 99 0 2 0;", 99), NONE);
        check.due("198 by 97", soonest("node 9;node 9;letter 99 0 1 5 4 99;meet 4 1 0 0;", 97), 101);
    }

    private static void soonestByOrder() {
        String head = "node 9;node 9;node 9;node 9;letter 1 0 3 5 4 9;";
        check.due("by order in a minute", soonest(head + "meet 2 0 1 0;meet 2 1 2 0;meet 2 2 3 0;", 0), 2);
        check.due("against the order", soonest(head + "meet 2 2 3 0;meet 2 1 2 0;meet 2 0 1 0;", 0), NONE);
        check.due("against the order, by rounds", soonest(head + "meet 2 2 3 0;meet 2 1 2 0;meet 2 0 1 0;", 1), 4);
        check.due("other gives to first", soonest(head + "meet 2 1 0 0;meet 2 2 1 0;meet 2 3 2 0;", 0), 2);
        check.due("not ahead of time", soonest(head + "meet 3 0 1 0;meet 2 1 3 0;", 0), NONE);
    }

    private static void soonestByRound() {
        String head = "node 9;node 9;node 9;letter 5 0 2 5 4 20;";
        check.due("no round", soonest(head + "meet 1 0 1 0;meet 2 1 2 0;", 0), NONE);
        check.due("1, 5; 2, 6", soonest(head + "meet 1 0 1 0;meet 2 1 2 0;", 4), 6);
        check.due("1, 6; 2, 7", soonest(head + "meet 1 0 1 0;meet 2 1 2 0;", 5), 7);
        check.due("not ahead of TIME", soonest(head + "meet 1 0 1 0;meet 16 1 2 0;", 4), 16);
        check.due("24 is the last", soonest(head + "meet 5 0 1 0;meet 4 1 2 0;", 20), 24);
        check.due("25 is too late", soonest(head + "meet 5 0 1 0;meet 4 1 2 0;", 21), NONE);
    }

    /** Not at CLOCK, at WIDTH, ROOM, TOKENS, MODE, POLICY, nor at what became of the LETTER. */
    private static void soonestLooksAtNothingElse() {
        SprayedLetters x = Check.told("node 0;node 0;node 0;letter 5 0 2 99 1 20;meet 7 0 1 0;meet 9 1 2 0;");
        x.set(1, 3);
        x.set(2, 0);
        check.due("ahead of all", x.soonest(0), 9);
        x.tick(5);
        check.due("it was lost", x.rule(14), 1);
        check.due("though lost", x.soonest(0), 9);
        x.tick(50);
        check.due("also those that have been", x.soonest(0), 9);
        x.set(0, 99);
        check.due("by rounds to come it is not sooner", x.soonest(0), 9);
        SprayedLetters y = Check.told("node 9;node 9;node 9;letter 1 0 2 5 1 20;meet 9 0 2 9;");
        y.tick(2);
        y.meet(0, 2, 9);
        check.due("delivered by hand at 2", y.letter(0, 7), 2);
        check.due("the soonest is by those told", y.soonest(0), 9);
        y.tick(8);
        y.send(0, 2, 1, 1, 9);
        check.due("sent at 10", y.soonest(1), NONE);
        y.set(0, 8);
        check.due("9 and 8 is 17", y.soonest(1), 17);
        y.set(0, 10);
        check.due("9 and 10 is 19: its end", y.soonest(1), NONE);
    }
}
