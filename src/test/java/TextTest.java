/** Promises 1 to 5: a new object, feed, end, text, fault. */
final class TextTest {
    private static final Check check = new Check();

    public static void main(String[] args) {
        newObject();
        feedAndEnd();
        takenTexts();
        tokens();
        faults();
        counts();
        refusedTextChangesNothing();
        takenTextBeginsAnew();
        check.finish();
    }

    private static void newObject() {
        SprayedLetters x = new SprayedLetters();
        for (int what = 0; what <= 18; what++) {
            check.due("new rule(" + what + ")", x.rule(what), what == 5 || what == 6 ? 1 : 0);
        }
        check.due("new fault()", x.fault(), 0);
        check.due("new node(0, 0)", x.node(0, 0), SprayedLetters.BAD);
        check.due("new meeting(0, 0)", x.meeting(0, 0), SprayedLetters.BAD);
        check.due("new letter(0, 0)", x.letter(0, 0), SprayedLetters.BAD);
        check.due("new refusal(0)", x.refusal(0), SprayedLetters.STATE);
        check.due("new back(0)", x.back(0), SprayedLetters.STATE);
    }

    private static void feedAndEnd() {
        SprayedLetters x = new SprayedLetters();
        check.due("feed(-1)", x.feed(-1), SprayedLetters.BAD);
        check.due("feed(128)", x.feed(128), SprayedLetters.BAD);
        check.due("feed(MIN)", x.feed(Integer.MIN_VALUE), SprayedLetters.BAD);
        check.due("end(0) of none", x.end(0), 0);
        check.due("end(1) of none", x.end(1), SprayedLetters.BAD);
        check.due("feed(0)", x.feed(0), 1);
        check.due("feed(127)", x.feed(127), 2);
        check.due("rule(17)", x.rule(17), 2);
        for (int i = 3; i <= 300; i++) {
            check.due("feed a blank", x.feed(32), i);
        }
        check.due("the 301st", x.feed(32), SprayedLetters.FULL);
        check.due("bad ahead of full", x.feed(200), SprayedLetters.BAD);
        check.due("end(301)", x.end(301), SprayedLetters.BAD);
        check.due("end(-1)", x.end(-1), SprayedLetters.BAD);
        check.due("end(300)", x.end(300), 300);
        check.due("end(1)", x.end(1), 300);
        check.due("end(0)", x.end(0), 1);
        check.due("feed after end", x.feed(32), 1);
    }

    private static void takenTexts() {
        check.due("empty", taken(""), 0);
        check.due("blanks", taken("     "), 0);
        check.due("a node", taken("node 0;"), 1);
        check.due("no blanks", taken("node5;node6;meet1 0 1 2;letter1 0 1 2 3 4;"), 4);
        check.due("many blanks", taken("   node  99  ;  node 00 ;   "), 2);
        check.due("nodes may come behind", taken("meet 1 0 1 5;letter 1 1 0 1 1 1;node 1;node 1;"), 4);
        check.due("two figures", taken("node 01;node 1;meet 09 00 01 00;"), 3);
        SprayedLetters x = Check.told("node 7;node 0;letter 99 1 0 98 64 97;meet 96 1 0 95;meet 1 0 1 0;");
        int[] letter = {99, 1, 0, 98, 64, 97};
        for (int what = 0; what < 6; what++) {
            check.due("told letter", x.letter(0, what), letter[what]);
        }
        int[] meeting = {96, 1, 0, 95, 96};
        for (int what = 0; what < 5; what++) {
            check.due("told meeting", x.meeting(0, what), meeting[what]);
        }
        check.due("told room", x.node(0, 0), 7);
        check.due("told room 0", x.node(1, 0), 0);
        check.due("told meetings", x.rule(1), 2);
        check.due("told letters", x.rule(2), 1);
    }

    private static int taken(String text) {
        SprayedLetters x = new SprayedLetters();
        int lines = Check.text(x, text);
        check.due("fault of " + text, x.fault(), 0);
        check.due("tape behind " + text, x.rule(17), 0);
        return lines;
    }

    private static void fault(String text, int place, int fault) {
        SprayedLetters x = new SprayedLetters();
        check.due("text() of '" + text + "'", Check.text(x, text), -10 - place);
        check.due("fault() of '" + text + "'", x.fault(), fault);
        check.due("tape behind '" + text + "'", x.rule(17), 0);
        check.due("nodes behind '" + text + "'", x.rule(0), 0);
    }

    private static void tokens() {
        fault("Node 1;", 0, 1);
        fault("  \t", 2, 1);
        fault("node\n5;", 4, 1);
        fault("node -5;", 5, 1);
        fault("node 100;", 5, 1);
        fault("node 005;", 5, 1);
        fault("123;", 0, 1);
        fault("node 5,", 6, 1);
        fault("nodenode 5;", 0, 2);
        fault("nodes 5;", 0, 2);
        fault("nod 5;", 0, 2);
        fault("node5 6;", 6, 2);
        fault("node 5 \0;", 7, 1);
        fault("node 5;{", 7, 1);
        fault("`", 0, 1);
        fault("/", 0, 1);
        fault(":", 0, 1);
    }

    private static void faults() {
        fault(";", 0, 2);
        fault("7", 0, 2);
        fault("node", 4, 2);
        fault("node   ", 7, 2);
        fault("node 5", 6, 2);
        fault("node 5  ", 8, 2);
        fault("node;", 4, 2);
        fault("node node", 5, 2);
        fault("node 5 node", 7, 2);
        fault("node 5;;", 7, 2);
        fault("node 5;meet 1 2;", 15, 2);
        fault("meet 0 1 2 3;", 5, 3);
        fault("meet 1 8 2 3;", 7, 3);
        fault("meet 1 2 8 3;", 9, 3);
        fault("meet 1 9 9 3;", 7, 3);
        fault("meet 1 7 7 3;", 9, 5);
        fault("meet 1 7 07", 9, 5);
        fault("letter 0 0 1 1 1 1;", 7, 3);
        fault("letter 1 8 1 1 1 1;", 9, 3);
        fault("letter 1 1 8 1 1 1;", 11, 3);
        fault("letter 1 1 1 0 1 1;", 11, 5);
        fault("letter 1 0 1 0 1 1;", 13, 3);
        fault("letter 1 0 1 1 0 1;", 15, 3);
        fault("letter 1 0 1 1 65 1;", 15, 3);
        fault("letter 1 0 1 1 64 0;", 18, 3);
        fault("letter 1 0 1 1 64 99", 20, 2);
        fault("meet 1 0 1 5;", 13, 6);
        fault("node 1;meet 1 0 1 5;  ", 22, 6);
        fault("node 1;meet 1 1 0 5;", 20, 6);
        fault("node 1;letter 1 0 1 1 1 1;", 26, 6);
        fault("node 1;letter 1 1 0 1 1 1;", 26, 6);
        fault("node 1;meet 1 0 1 5;x", 20, 2);
        fault("node 1;meet 1 0 1 5;?", 20, 1);
    }

    private static void counts() {
        String eight = "node 1;".repeat(8);
        check.due("8 nodes", taken(eight), 8);
        fault(eight + "node", 56, 4);
        fault(eight + " node 100", 57, 4);
        fault(eight + "nodes", 56, 2);
        String meetings = "meet1 0 1 1;".repeat(24);
        check.due("24 meetings", taken("node1;node1;" + meetings), 26);
        fault(meetings + "meet", 288, 4);
        fault(meetings + "meet100", 288, 4);
        fault(meetings + "letter", 294, 2);
        String letters = "letter1 0 1 1 1 1;".repeat(16);
        check.due("16 letters", taken("node1;node1;" + letters), 18);
        fault(letters + " letter", 289, 4);
        fault(letters + "meet", 292, 2);
        fault(letters, 288, 6);
    }

    private static void refusedTextChangesNothing() {
        SprayedLetters x = Check.told("node 9;node 9;letter 1 0 1 1 2 9;meet 1 0 1 9;");
        x.tick(2);
        x.keep(1);
        check.due("faulty text", Check.text(x, "node 5;node"), -21);
        check.due("fault", x.fault(), 2);
        check.due("fault again", x.fault(), 2);
        check.due("nodes stay", x.rule(0), 2);
        check.due("room stays", x.node(0, 0), 9);
        check.due("clock stays", x.rule(3), 2);
        check.due("delivered stays", x.rule(10), 1);
        check.due("image stays", x.rule(18), 1);
        check.due("empty text", x.text(), 0);
        check.due("no fault now", x.fault(), 0);
        check.due("no nodes now", x.rule(0), 0);
    }

    private static void takenTextBeginsAnew() {
        SprayedLetters x = Check.told("node 9;node 9;node 9;letter 1 0 1 5 2 9;letter 1 0 2 9 1 9;letter 1 2 1 3 2 9;"
                + "meet 1 0 1 9;meet 1 2 1 0;");
        x.set(0, 5);
        x.set(1, 2);
        x.set(2, 3);
        x.set(3, 4);
        x.tick(2);
        x.keep(0);
        x.keep(1);
        check.due("a refusal", x.refusal(0) > 0);
        check.due("anew", Check.text(x, "node 3;node 4;letter 1 0 1 5 2 9;letter 1 0 1 5 2 9;"), 4);
        int[] rules = {2, 0, 2, 0, 5, 2, 3, 4, 0, 0, 0, 0, 0, 0, 0, 0, 0, 0, 0};
        for (int what = 0; what <= 18; what++) {
            check.due("anew rule(" + what + ")", x.rule(what), rules[what]);
        }
        check.due("anew copy", x.copy(0, 0, 0), SprayedLetters.NONE);
        check.due("anew refusal", x.refusal(0), SprayedLetters.STATE);
        check.due("anew last", x.last(0, 1), SprayedLetters.NONE);
        check.due("anew note", x.note(0, 0), 0);
        check.due("anew letter", x.letter(0, 6), 0);
        check.due("anew delivered", x.letter(0, 7), SprayedLetters.NONE);
        check.due("anew hops", x.letter(0, 8), SprayedLetters.NONE);
        check.due("anew back(0)", x.back(0), SprayedLetters.STATE);
        check.due("anew back(1)", x.back(1), SprayedLetters.STATE);
        check.due("anew node 2", x.node(2, 0), SprayedLetters.BAD);
    }
}
