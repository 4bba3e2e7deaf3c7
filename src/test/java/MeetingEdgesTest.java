/** A MEETING at its edges: its WIDTH, the order of handing, TOKENS by MODE, NOTES, REASONS, THE REFUSAL. */
final class MeetingEdgesTest {
    private static final int BAD = SprayedLetters.BAD;
    private static final int STATE = SprayedLetters.STATE;
    private static final int NONE = SprayedLetters.NONE;
    private static final int KNOWN = 1, WAIT = 2, NARROW = 3;
    private static final Check check = new Check();

    public static void main(String[] args) {
        widthOfNone();
        widthThatIsUsedUp();
        narrowThenSmaller();
        widthIsOfBothWays();
        thoseToTheTakerFirst();
        fewerHopsThenLesserLetters();
        firstHandsFirst();
        whatCameIsOfferedBack();
        halves();
        oneTokenByMode();
        thereWithoutRoomOrWait();
        deliveredOnce();
        notesOfBoth();
        curedInBothAheadOfHanding();
        lastOfBoth();
        reasonsTheFirst();
        waitsByMargin();
        waitsWhereNoneIs();
        whyIsNow();
        theRefusal();
        aFocusedCopyIsRefusedBack();
        meetingsByHandAreNotTold();
        copiesInOrder();
        check.finish();
    }

    private static SprayedLetters nodes(int count) {
        return Check.told("node 99;".repeat(count));
    }

    private static void refusal(String name, SprayedLetters x, int... due) {
        for (int what = 0; what < 6; what++) {
            check.due(name + ": refusal(" + what + ")", x.refusal(what), due[what]);
        }
    }

    private static void widthOfNone() {
        SprayedLetters x = nodes(3);
        x.send(0, 1, 1, 1, 9);
        x.tick(2);
        check.due("none is handed", x.meet(0, 1, 0), 0);
        refusal("width 0", x, NARROW, NONE, 0, 0, 1, 2);
        check.due("they met", x.last(0, 1), 2);
        check.due("met", x.node(0, 4) * 10 + x.node(1, 4), 11);
        check.due("it was", x.rule(15), 1);
        check.due("width 1", x.meet(0, 1, 1), 1);
        check.due("notes by width 0", x.meet(1, 2, 0) + x.note(2, 0), 1);
    }

    private static void widthThatIsUsedUp() {
        for (int width : new int[] {29, 30, 31}) {
            SprayedLetters x = nodes(2);
            x.send(0, 1, 10, 1, 9);
            x.send(0, 1, 20, 1, 9);
            x.send(0, 1, 1, 1, 9);
            x.meet(0, 1, width);
            check.due("width " + width + ": the first", x.letter(0, 6), 2);
            check.due("width " + width + ": the second", x.letter(1, 6), width >= 30 ? 2 : 1);
            check.due("width " + width + ": the third", x.letter(2, 6), width == 30 ? 1 : 2);
        }
        SprayedLetters y = nodes(2);
        y.send(0, 1, 99, 1, 9);
        check.due("98 is too narrow for 99", y.meet(0, 1, 98), 0);
        check.due("99 is not", y.meet(0, 1, 99), 1);
        SprayedLetters z = nodes(2);
        z.send(0, 1, 10, 1, 9);
        z.send(0, 1, 10, 1, 9);
        check.due("one each meeting", z.meet(0, 1, 19) * 10 + z.meet(0, 1, 19), 11);
    }

    private static void narrowThenSmaller() {
        SprayedLetters x = nodes(3);
        x.send(0, 2, 20, 4, 9);
        x.send(0, 2, 21, 4, 9);
        x.send(0, 2, 10, 4, 9);
        check.due("the middle one is left out", x.meet(0, 1, 30), 2);
        check.due("copies", x.letter(0, 9) * 100 + x.letter(1, 9) * 10 + x.letter(2, 9), 212);
        refusal("the middle one", x, NARROW, NONE, 1, 0, 1, 0);
    }

    private static void widthIsOfBothWays() {
        SprayedLetters x = nodes(2);
        x.send(0, 1, 10, 1, 9);
        x.send(1, 0, 15, 1, 9);
        x.send(1, 0, 5, 1, 9);
        check.due("10 and 5 of 24", x.meet(0, 1, 24), 2);
        check.due("15 is left", x.letter(1, 6), 1);
        refusal("the way back", x, NARROW, NONE, 1, 1, 0, 0);
        // What is refused takes nothing off.
        SprayedLetters y = nodes(3);
        y.send(0, 2, 50, 1, 9);
        y.send(1, 0, 60, 1, 9);
        check.due("the one that waits leaves all", y.meet(0, 1, 60), 1);
    }

    private static void thoseToTheTakerFirst() {
        SprayedLetters x = nodes(4);
        x.send(1, 2, 10, 8, 90);
        x.meet(1, 0, 99);
        x.send(0, 3, 10, 8, 90);
        check.due("hops", x.copy(0, 0, 2) * 10 + x.copy(0, 1, 2), 1);
        check.due("one fits", x.meet(0, 2, 10), 1);
        check.due("that to the taker, though of more hops, is there", x.letter(0, 6), 2);
        check.due("the other is not handed", x.letter(1, 9), 1);
        // Among those to the taker, too: fewer HOPS, then lesser LETTERS.
        SprayedLetters y = nodes(3);
        y.send(1, 2, 10, 8, 90);
        y.meet(1, 0, 99);
        y.send(0, 2, 10, 8, 90);
        y.send(0, 2, 10, 8, 90);
        y.meet(0, 2, 20);
        check.due("of fewer hops first", y.letter(0, 6) * 100 + y.letter(1, 6) * 10 + y.letter(2, 6), 122);
        y.meet(2, 0, 10);
        check.due("then the rest", y.letter(0, 8), 2);
        SprayedLetters z = nodes(3);
        z.send(0, 2, 10, 8, 90);
        z.send(0, 2, 10, 8, 90);
        z.meet(0, 2, 10);
        check.due("the lesser first", z.letter(0, 6) * 10 + z.letter(1, 6), 21);
    }

    private static void fewerHopsThenLesserLetters() {
        SprayedLetters x = nodes(4);
        x.send(1, 3, 10, 16, 90);
        x.meet(1, 0, 99);
        x.send(0, 3, 10, 16, 90);
        x.send(0, 3, 10, 16, 90);
        int[] due = {1, 2, 0};
        for (int i = 0; i < 3; i++) {
            check.due("one by one", x.meet(0, 2, 10), 1);
            check.due("letter " + due[i] + " came", x.letter(due[i], 9), due[i] == 0 ? 3 : 2);
            check.due("copies", x.node(2, 2), i + 1);
        }
    }

    private static void firstHandsFirst() {
        for (int first = 0; first < 2; first++) {
            SprayedLetters x = nodes(2);
            x.send(0, 1, 10, 1, 9);
            x.send(1, 0, 10, 1, 9);
            x.meet(first, 1 - first, 10);
            check.due("first's is there", x.letter(first, 6), 2);
            check.due("other's is not", x.letter(1 - first, 6), 1);
            refusal("other is the giver", x, NARROW, NONE, 1 - first, 1 - first, first, 0);
            String text = "node 99;node 99;letter 1 0 1 10 1 9;letter 1 1 0 10 1 9;meet 1 " + first + " " + (1 - first) + " 10;";
            SprayedLetters y = Check.told(text);
            y.tick(1);
            check.due("told: first's is there", y.letter(first, 6), 2);
            check.due("told: other's is not", y.letter(1 - first, 6), 1);
        }
    }

    /** OTHER hands the COPIES that it has as it begins: also those that FIRST just handed. */
    private static void whatCameIsOfferedBack() {
        SprayedLetters x = nodes(3);
        x.send(0, 2, 10, 4, 9);
        check.due("handed once", x.meet(0, 1, 99), 1);
        refusal("known", x, KNOWN, NONE, 0, 1, 0, 0);
        // What OTHER hands takes the room of what FIRST has just handed on; then that, too, is handed back.
        SprayedLetters y = Check.told("node 20;node 99;node 99;node 99;");
        y.send(1, 3, 10, 8, 90);
        y.meet(1, 0, 99);
        y.tick(1);
        y.send(2, 3, 15, 8, 90);
        check.due("there, and both back", y.meet(0, 2, 99), 3);
        check.due("dropped, each for the next", y.rule(11), 2);
        check.due("copies", y.letter(0, 9) * 10 + y.letter(1, 9), 31);
        check.due("it is in 0 again, by three hops, since now", y.copy(0, 0, 0) * 100 + y.copy(0, 0, 2) * 10 + y.copy(0, 0, 3), 31);
        check.due("its tokens", y.copy(0, 0, 1) * 10 + y.copy(2, 1, 1), 11);
    }

    private static void halves() {
        int[] tokens = {64, 63, 33, 32, 7, 5, 4, 3, 2};
        for (int mode = 0; mode < 3; mode++) {
            for (int t : tokens) {
                SprayedLetters x = nodes(3);
                x.set(1, mode);
                x.tick(3);
                x.send(0, 2, 1, t, 90);
                x.tick(2);
                check.due("handed", x.meet(0, 1, 9), 1);
                check.due("half of " + t + ", down", x.copy(1, 0, 1), t / 2);
                check.due("the giver loses it", x.copy(0, 0, 1), t - t / 2);
                check.due("all", x.letter(0, 10), t);
                check.due("hops", x.copy(0, 0, 2) * 10 + x.copy(1, 0, 2), 1);
                check.due("since", x.copy(0, 0, 3) * 10 + x.copy(1, 0, 3), 35);
                check.due("it was told", x.letter(0, 4), t);
            }
        }
        SprayedLetters x = nodes(4);
        x.send(0, 3, 1, 3, 90);
        x.meet(0, 1, 9);
        x.meet(0, 2, 9);
        check.due("3 is 1, 1, 1", x.copy(0, 0, 1) * 100 + x.copy(1, 0, 1) * 10 + x.copy(2, 0, 1), 111);
        check.due("no more", x.meet(1, 2, 9) + x.meet(0, 1, 9), 0);
    }

    private static void oneTokenByMode() {
        int[] handed = {1, 0, 1, 0};
        int[] copies = {2, 1, 1, 1};
        for (int mode = 0; mode < 4; mode++) {
            SprayedLetters x = nodes(3);
            x.set(1, mode);
            x.meet(1, 2, 0);
            x.send(0, 2, 1, 1, 90);
            check.due("mode " + mode + ", 1 token", x.meet(0, 1, 9), handed[mode]);
            check.due("copies", x.letter(0, 9), copies[mode]);
            check.due("tokens", x.letter(0, 10), copies[mode]);
            check.due("the giver", x.node(0, 2), mode == 2 ? 0 : 1);
            check.due("the taker", x.node(1, 2), handed[mode]);
            check.due("its token", x.copy(1, 0, 1), handed[mode] == 1 ? 1 : NONE);
            check.due("its hops", x.copy(1, 0, 2), handed[mode] == 1 ? 1 : NONE);
            check.due("nothing was dropped, cured, expired", x.rule(11) + x.rule(12) + x.rule(13), 0);
            check.due("what it is", x.letter(0, 6), 1);
        }
        // In MODE 3 TOKENS are not looked at.
        SprayedLetters y = nodes(3);
        y.set(1, 3);
        y.send(0, 2, 1, 64, 90);
        check.due("alone", y.meet(0, 1, 9), 0);
        refusal("alone", y, WAIT, NONE, 0, 0, 1, 0);
        check.due("alone, to the receiver", y.meet(0, 2, 9), 1);
    }

    private static void thereWithoutRoomOrWait() {
        for (int mode = 0; mode < 4; mode++) {
            for (int policy = 0; policy < 4; policy++) {
                SprayedLetters x = Check.told("node 99;node 0;");
                x.set(1, mode);
                x.set(2, policy);
                x.set(3, 9);
                x.send(0, 1, 99, 1, 9);
                check.due("why not", x.why(0, 1, 0, 99), 0);
                check.due("too narrow", x.why(0, 1, 0, 98), NARROW);
                check.due("it is there", x.meet(1, 0, 99), 1);
                check.due("delivered", x.letter(0, 6), 2);
                check.due("no copies, no load", x.rule(8) + x.node(1, 1) + x.node(1, 2), 0);
            }
        }
    }

    private static void deliveredOnce() {
        SprayedLetters x = nodes(4);
        x.tick(2);
        x.send(0, 3, 5, 8, 90);
        x.tick(3);
        x.meet(0, 1, 9);
        x.meet(1, 2, 9);
        check.due("not there yet", x.letter(0, 7) * 10 + x.letter(0, 8), NONE * 11);
        x.tick(1);
        x.meet(2, 3, 9);
        check.due("clock, hops", x.letter(0, 7) * 10 + x.letter(0, 8), 63);
        check.due("delivered, minutes", x.rule(10) * 10 + x.rule(16), 14);
        x.tick(1);
        check.due("cured, not handed", x.meet(0, 3, 9) * 10 + x.rule(12), 1);
        x.meet(1, 3, 9);
        check.due("cured", x.rule(12), 2);
        check.due("clock, hops stay", x.letter(0, 7) * 10 + x.letter(0, 8), 63);
        check.due("delivered, minutes stay", x.rule(10) * 10 + x.rule(16), 14);
        check.due("handed", x.rule(9), 3);
        SprayedLetters y = nodes(2);
        y.send(0, 1, 5, 8, 90);
        y.meet(0, 1, 9);
        check.due("in the minute of birth", y.rule(10) * 10 + y.rule(16), 10);
    }

    private static void notesOfBoth() {
        SprayedLetters x = nodes(4);
        x.send(0, 1, 5, 1, 9);
        x.send(2, 3, 5, 1, 9);
        x.meet(0, 1, 9);
        x.meet(3, 2, 9);
        int[][] due = {{1, 0}, {1, 0}, {0, 1}, {0, 1}};
        for (int n = 0; n < 4; n++) {
            check.due("giver, taker alone", x.note(n, 0) * 10 + x.note(n, 1), due[n][0] * 10 + due[n][1]);
        }
        x.meet(1, 2, 0);
        check.due("both ways", x.node(1, 3) * 10 + x.node(2, 3), 22);
        check.due("not further", x.node(0, 3) * 10 + x.node(3, 3), 11);
        x.tick(50);
        check.due("they stay when the letter's life is over", x.node(1, 3) * 10 + x.node(2, 3), 22);
        SprayedLetters y = nodes(3);
        for (int l = 0; l < 16; l++) {
            y.send(0, 1, 1, 1, 9);
        }
        y.meet(0, 1, 99);
        y.meet(2, 0, 0);
        check.due("all 16", y.node(2, 3), 16);
        check.due("the first and the last", y.note(2, 0) * 10 + y.note(2, 15), 11);
    }

    /** Node 0 has a NOTE of what node 1 has a COPY of, and node 1 of what node 0 has. */
    private static void curedInBothAheadOfHanding() {
        SprayedLetters x = nodes(4);
        x.send(0, 2, 5, 4, 90);
        x.send(1, 3, 5, 4, 90);
        x.meet(0, 1, 99);
        x.meet(0, 3, 99);
        x.meet(1, 2, 99);
        check.due("one in each is left, and one in 2, 3", x.letter(0, 9) * 10 + x.letter(1, 9), 33 - 11);
        check.due("cured so far", x.rule(12), 0);
        refusal("known ahead", x, KNOWN, NONE, 1, 2, 1, 0);
        x.tick(1);
        check.due("none is handed", x.meet(0, 1, 99), 0);
        check.due("cured in both", x.rule(12), 2);
        check.due("no copies in them", x.node(0, 2) + x.node(1, 2), 0);
        check.due("no refusal of what was cured", x.refusal(5), 0);
    }

    private static void lastOfBoth() {
        SprayedLetters x = nodes(3);
        check.due("never", x.last(0, 1), NONE);
        x.meet(0, 1, 0);
        check.due("at 0", x.last(0, 1) + x.last(1, 0), 0);
        check.due("met", x.node(0, 4) * 100 + x.node(1, 4) * 10 + x.node(2, 4), 110);
        x.tick(5);
        x.meet(1, 0, 0);
        x.meet(1, 2, 0);
        check.due("the latest", x.last(0, 1) * 10 + x.last(1, 0), 55);
        check.due("met", x.node(0, 4) * 100 + x.node(1, 4) * 10 + x.node(2, 4), 121);
        check.due("not those two", x.last(0, 2), NONE);
        SprayedLetters y = nodes(8);
        for (int n = 0; n < 7; n++) {
            check.due("so many so far", y.node(7, 4), n);
            y.meet(n, 7, 0);
        }
        check.due("all others", y.node(7, 4), 7);
        check.due("one each", y.node(0, 4) + y.node(6, 4), 2);
    }

    /** Each REASON ahead of the next one that would fit as well. */
    private static void reasonsTheFirst() {
        SprayedLetters x = Check.told("node 99;node 10;node 99;");
        x.send(0, 2, 10, 3, 90);
        check.due("none", x.why(0, 1, 0, 10), 0);
        check.due("narrow", x.why(0, 1, 0, 9), NARROW);
        check.due("handed", x.meet(0, 1, 10), 1);
        check.due("known, narrow", x.why(0, 1, 0, 0), KNOWN);
        check.due("known, wait, narrow, full", x.why(1, 0, 0, 0), KNOWN);
        x.set(1, 3);
        check.due("known, wait by mode 3", x.why(0, 1, 0, 99), KNOWN);
        x.set(1, 1);
        x.send(0, 2, 11, 1, 90);
        check.due("wait, narrow, full", x.why(0, 1, 1, 10), WAIT);
        check.due("wait, full", x.why(0, 1, 1, 11), WAIT);
        x.set(1, 0);
        check.due("narrow, full", x.why(0, 1, 1, 10), NARROW);
        check.due("full", x.why(0, 1, 1, 11), 5);
        check.due("to the receiver, narrow", x.why(0, 2, 1, 10), NARROW);
        check.due("to the receiver", x.why(0, 2, 1, 11), 0);
        x.set(1, 2);
        check.due("focus waits", x.why(0, 1, 1, 99), WAIT);
        check.due("two tokens do not wait", x.why(0, 1, 0, 99) * 10 + x.letter(0, 10), KNOWN * 10 + 3);
    }

    /** By MARGIN exactly it waits, by one more it does not. */
    private static void waitsByMargin() {
        for (int margin = 0; margin <= 9; margin++) {
            for (int later = 0; later <= 11; later++) {
                SprayedLetters x = nodes(3);
                x.set(1, 2);
                x.set(3, margin);
                x.tick(2);
                x.meet(0, 2, 0);
                if (later > 0) {
                    x.tick(later);
                }
                x.meet(1, 2, 0);
                x.send(0, 2, 5, 1, 90);
                int due = later > margin ? 0 : WAIT;
                check.due("margin " + margin + ", later by " + later, x.why(0, 1, 0, 99), due);
                check.due("handed", x.meet(0, 1, 99), due == 0 ? 1 : 0);
            }
        }
        SprayedLetters x = nodes(3);
        x.set(1, 2);
        x.meet(1, 2, 0);
        x.tick(1);
        x.meet(0, 2, 0);
        x.send(0, 2, 5, 1, 90);
        check.due("the giver met later", x.why(0, 1, 0, 99), WAIT);
    }

    /** "as there is none: above -1". */
    private static void waitsWhereNoneIs() {
        for (int margin = 0; margin <= 9; margin++) {
            for (int clock = 0; clock <= 10; clock++) {
                SprayedLetters x = nodes(3);
                x.set(1, 2);
                x.set(3, margin);
                if (clock > 0) {
                    x.tick(clock);
                }
                x.send(0, 2, 5, 1, 90);
                check.due("neither met", x.why(0, 1, 0, 99), WAIT);
                x.meet(1, 2, 0);
                check.due("margin " + margin + ", met at " + clock, x.why(0, 1, 0, 99), clock + 1 > margin ? 0 : WAIT);
            }
        }
        SprayedLetters y = nodes(3);
        y.set(1, 2);
        y.send(0, 2, 5, 1, 90);
        y.meet(0, 2, 0);
        check.due("the giver alone met", y.why(0, 1, 0, 99), WAIT);
        SprayedLetters z = nodes(4);
        z.set(1, 2);
        z.meet(1, 3, 0);
        z.meet(0, 1, 0);
        z.send(0, 2, 5, 1, 90);
        check.due("met others, not the receiver", z.why(0, 1, 0, 99), WAIT);
    }

    private static void whyIsNow() {
        SprayedLetters x = nodes(3);
        x.send(0, 2, 10, 4, 9);
        x.meet(0, 1, 99);
        x.meet(1, 2, 99);
        check.due("notes are not told by asking", x.why(0, 2, 0, 10), 0);
        check.due("the copy is there still", x.letter(0, 9), 1);
        check.due("no such copy any more", x.why(1, 0, 0, 99), BAD);
        check.due("what is over may be handed to who has none", x.why(0, 1, 0, 10), 0);
        x.meet(0, 1, 0);
        check.due("cured", x.why(0, 1, 0, 10), BAD);
        SprayedLetters y = nodes(2);
        y.send(0, 1, 1, 1, 1);
        check.due("size 1, nothing left", y.why(0, 1, 0, 0), NARROW);
        check.due("size 1, one left", y.why(0, 1, 0, 1), 0);
        y.tick(1);
        check.due("expired", y.why(0, 1, 0, 1), BAD);
    }

    private static void theRefusal() {
        SprayedLetters x = Check.told("node 99;node 10;node 99;");
        for (int what = 0; what < 6; what++) {
            check.due("none since ANEW", x.refusal(what), STATE);
        }
        x.send(0, 2, 5, 1, 90);
        x.send(0, 2, 11, 2, 90);
        x.send(0, 2, 6, 2, 90);
        x.tick(3);
        check.due("asking is no refusal", x.why(0, 1, 0, 9) * 10 + x.refusal(0), WAIT * 10 + STATE);
        check.due("handed", x.meet(1, 0, 10), 1);
        refusal("the first of three", x, WAIT, NONE, 0, 0, 1, 3);
        x.tick(1);
        x.meet(1, 2, 0);
        refusal("the latest meeting, by the first", x, NARROW, NONE, 2, 1, 2, 4);
        x.tick(1);
        check.due("all are handed", x.meet(2, 0, 99), 3);
        refusal("none in this one: that ahead stays", x, NARROW, NONE, 2, 1, 2, 4);
        x.send(0, 2, 11, 2, 90);
        x.meet(0, 1, 99);
        refusal("full", x, 4, 5, 3, 0, 1, 5);
        x.meet(0, 1, 10);
        refusal("narrow in the same minute", x, NARROW, NONE, 3, 0, 1, 5);
        check.due("of this text alone", Check.text(x, "node 9;") * 10 + x.refusal(0), 10 + STATE);
        // By MEETINGS of a MINUTE it is the latest of them.
        SprayedLetters y = Check.told("node 9;node 9;node 9;letter 1 0 2 5 1 9;letter 1 1 2 4 1 9;meet 1 0 1 9;meet 1 1 0 9;meet 1 2 0 9;");
        y.tick(1);
        refusal("the second meeting's first", y, WAIT, NONE, 1, 1, 0, 1);
    }

    /** MODE 2: what OTHER just got, FIRST has no more; OTHER offers it back, and it waits. */
    private static void aFocusedCopyIsRefusedBack() {
        SprayedLetters x = nodes(3);
        x.set(1, 2);
        x.meet(1, 2, 0);
        x.send(0, 2, 5, 1, 90);
        check.due("handed", x.meet(0, 1, 99), 1);
        refusal("offered back", x, WAIT, NONE, 0, 1, 0, 0);
        check.due("only there", x.node(0, 2) * 10 + x.node(1, 2), 1);
    }

    private static void meetingsByHandAreNotTold() {
        SprayedLetters x = Check.told("node 9;node 9;node 9;meet 5 0 1 9;");
        x.tick(2);
        x.meet(0, 2, 9);
        check.due("one told", x.rule(1), 1);
        check.due("one was", x.rule(15), 1);
        check.due("clock stays", x.rule(3), 2);
        x.set(0, 1);
        x.tick(2);
        check.due("it does not come round", x.rule(15), 1);
        check.due("nor counts for the soonest", x.send(0, 2, 1, 1, 9) * 10 + x.soonest(0), NONE);
    }

    private static void copiesInOrder() {
        SprayedLetters x = nodes(4);
        x.send(1, 3, 1, 64, 90);
        x.meet(1, 2, 99);
        x.meet(2, 0, 99);
        x.send(1, 3, 2, 64, 90);
        x.meet(1, 0, 99);
        x.send(0, 3, 3, 8, 90);
        x.tick(1);
        x.send(0, 3, 4, 9, 90);
        int[][] due = {{2, 8, 0, 0}, {3, 9, 0, 1}, {1, 32, 1, 0}, {0, 16, 2, 0}};
        for (int i = 0; i < due.length; i++) {
            for (int what = 0; what < 4; what++) {
                check.due("copy(0, " + i + ", " + what + ")", x.copy(0, i, what), due[i][what]);
            }
        }
        check.due("no more", x.copy(0, 4, 0), NONE);
        // To whom a LETTER is does not count here: of more HOPS it is behind.
        for (int to = 0; to < 4; to++) {
            int giver = to == 0 ? 1 : 0;
            int n = to == 3 ? 2 : 3;
            SprayedLetters y = nodes(4);
            y.send(giver, to, 1, 64, 90);
            y.meet(giver, n, 99);
            y.send(n, giver, 1, 64, 90);
            check.due("to " + to + ": by hops", y.copy(n, 0, 0) * 10 + y.copy(n, 1, 0), 10);
        }
    }
}
