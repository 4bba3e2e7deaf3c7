/** Promises 2 to 5 at their edges: THE TAPE's bytes, its tokens, its lines, the FAULTS and their places. */
final class TapeEdgesTest {
    private static final int BAD = SprayedLetters.BAD;
    private static final int FULL = SprayedLetters.FULL;
    private static final int STATE = SprayedLetters.STATE;
    private static final int NONE = SprayedLetters.NONE;
    private static final String EIGHT = "node9;".repeat(8);
    private static final Check check = new Check();
    private static final Twins twins = new Twins(check);

    public static void main(String[] args) {
        everyByteAlone();
        everyByteInALine();
        blanks();
        tokensAsLongAsMayBe();
        emptyAndFullTape();
        endKeepsTheFirst();
        namesThatBeginNoLine();
        everyNumberOfALine();
        tokensThatCanNotStandThere();
        tooMany();
        pairs();
        nodesThatAreNot();
        theFirstFault();
        whateverIsBehindAFault();
        faultOfTheLatestText();
        faultsChangeNothing();
        takenInPlaceOfWhatThereWas();
        noCopiesBehindATakenText();
        check.finish();
    }

    private static void taken(String text, int lines) {
        result(text, lines, 0);
    }

    private static void fault(String text, int fault, int place) {
        result(text, -10 - place, fault);
    }

    private static void result(String text, int answer, int fault) {
        String shown = text.length() > 60 ? text.length() + " bytes, .." + text.substring(text.length() - 30) : text;
        check.due("the test's text is no longer than the tape: " + shown, text.length() <= 300);
        SprayedLetters x = new SprayedLetters();
        check.due("text() of '" + shown + "'", Check.text(x, text), answer);
        check.due("fault() of '" + shown + "'", x.fault(), fault);
        check.due("the tape is empty then", x.rule(17), 0);
        check.due("feed behind it is the first", x.feed(32), 1);
    }

    private static boolean isLetter(int c) {
        return c >= 97 && c <= 122;
    }

    private static boolean isFigure(int c) {
        return c >= 48 && c <= 57;
    }

    /** "(every other byte is none)": blanks are 32 alone, NAMES are of a .. z alone. */
    private static void everyByteAlone() {
        for (int c = 0; c <= 127; c++) {
            String text = String.valueOf((char) c);
            if (c == 32) {
                taken(text, 0);
            } else {
                fault(text, isLetter(c) || isFigure(c) || c == 59 ? 2 : 1, 0);
            }
        }
    }

    private static void everyByteInALine() {
        for (int c = 0; c <= 127; c++) {
            String s = String.valueOf((char) c);
            boolean none = c != 32 && c != 59 && !isLetter(c) && !isFigure(c);
            if (c == 32 || isFigure(c)) {
                taken("node 5" + s + ";", 1);
            } else {
                fault("node 5" + s + ";", none ? 1 : 2, c == 59 ? 7 : 6);
            }
            if (isFigure(c)) {
                taken("node" + s + ";", 1);
            } else {
                fault("node" + s + ";", none ? 1 : 2, isLetter(c) ? 0 : c == 32 ? 5 : 4);
            }
            // The NAME that begins no line is refused ahead of the byte behind it.
            if (c == 'e') {
                taken("nod" + s + " 5;", 1);
            } else {
                fault("nod" + s + " 5;", 2, 0);
            }
            if (c == 32) {
                taken("node 5;" + s, 1);
            } else {
                fault("node 5;" + s, none ? 1 : 2, 7);
            }
        }
    }

    private static void blanks() {
        taken("node5;node6;meet1 0 1 2;letter1 0 1 2 3 4;", 4);
        taken("  node  5  ;  node  6  ;  meet  1  0  1  2  ;  letter  1  0  1  2  3  4  ;  ", 4);
        taken(" ".repeat(300), 0);
        taken(" ".repeat(293) + "node 1;", 1);
        taken("node 1;" + " ".repeat(293), 1);
        taken("node" + " ".repeat(294) + "1;", 1);
        taken("node 1" + " ".repeat(293) + ";", 1);
        // Without a blank two NUMBERS are one, two NAMES are one.
        fault(EIGHT + "meet1 01 2;", 2, 58);
        fault(EIGHT + "meet10 1 2;", 2, 58);
        fault("nodemeet", 2, 0);
        fault("node node", 2, 5);
        fault("no de 5;", 2, 0);
        fault("node 5 5;", 2, 7);
    }

    private static void tokensAsLongAsMayBe() {
        taken("node 0;node 00;node 9;node 09;node 99;", 5);
        SprayedLetters x = Check.told("node 0;node 00;node 9;node 09;node 99;node 10;");
        int[] rooms = {0, 0, 9, 9, 99, 10};
        for (int n = 0; n < rooms.length; n++) {
            check.due("room " + n, x.node(n, 0), rooms[n]);
        }
        fault("node 000;", 1, 5);
        fault("node 100;", 1, 5);
        fault("node100", 1, 4);
        fault("node  0000000001;", 1, 6);
        fault("node 5;  123", 1, 9);
        fault("1".repeat(300), 1, 0);
        fault("node" + "1".repeat(296), 1, 4);
        fault("12", 2, 0);
        fault("a".repeat(300), 2, 0);
        fault("node".repeat(75), 2, 0);
    }

    private static void emptyAndFullTape() {
        taken("", 0);
        SprayedLetters none = Check.told("node 5;node 5;meet 1 0 1 5;letter 1 0 1 1 1 1;");
        check.due("the empty tape tells that there is nothing", none.text(), 0);
        check.due("nothing", none.rule(0) + none.rule(1) + none.rule(2), 0);
        String full = "node1;node1;" + "meet1 0 1 1;".repeat(24);
        check.due("300 bytes", full.length(), 300);
        taken(full, 26);
        fault(full.substring(0, 299), 2, 299);
        fault(" ".repeat(299) + ";", 2, 299);
        fault(" ".repeat(299) + "?", 1, 299);
        fault("node" + " ".repeat(296), 2, 300);
        fault("node1;meet1 0 1 1;" + " ".repeat(282), 6, 300);
        SprayedLetters x = new SprayedLetters();
        for (int i = 1; i <= 300; i++) {
            check.due("feed " + i, x.feed(full.charAt(i - 1)), i);
        }
        check.due("the 301st", x.feed('?'), FULL);
        check.due("the 301st again", x.feed('?'), FULL);
        check.due("300 on it", x.rule(17), 300);
        check.due("the 301st is not of it", x.text(), 26);
        check.due("none on it", x.rule(17), 0);
        check.due("there is place again", x.feed(0), 1);
    }

    private static void endKeepsTheFirst() {
        SprayedLetters x = new SprayedLetters();
        Check.feed(x, "node 5;node 6;?");
        check.due("one above", x.end(16), BAD);
        check.due("as many", x.end(15), 15);
        check.due("one less", x.end(14), 15);
        check.due("one above what is left", x.end(15), BAD);
        check.due("to the first line", x.end(7), 14);
        check.due("bytes", x.rule(17), 7);
        check.due("behind what was kept", Check.text(x, "node 7;"), 2);
        check.due("first room", x.node(0, 0), 5);
        check.due("second room", x.node(1, 0), 7);
        Check.feed(x, "x");
        check.due("to none", x.end(0), 1);
        check.due("of none", x.end(0), 0);
        check.due("end does not tell", x.rule(0), 2);
        Twins.full(x);
        check.due("end of 300", x.end(299), 300);
        check.due("the last place again", x.feed(';'), 300);
        check.due("no more", x.feed(';'), FULL);
    }

    private static void namesThatBeginNoLine() {
        for (String name : new String[] {"n", "nod", "nodes", "nodf", "mode", "mee", "meets", "meeting", "meat", "lette",
            "letters", "lettar", "a", "z", "end", "anode"}) {
            fault(name + " 1 2 3 4 5 6;", 2, 0);
            fault("node 5; " + name + ";", 2, 8);
            fault(EIGHT + name, 2, 48);
        }
        for (String word : new String[] {"node", "meet", "letter"}) {
            fault(word, 2, word.length());
            fault(word + "  ", 2, word.length() + 2);
            fault(word + ";", 2, word.length());
            fault(word + " x", 2, word.length() + 1);
        }
    }

    /** Of each NUMBER the last that is taken and the first that is not, told in a line whose others are right. */
    private static void everyNumberOfALine() {
        number("node", new int[] {5}, 0, 0, 99);
        int[] meet = {5, 3, 4, 5};
        number("meet", meet, 0, 1, 99);
        number("meet", meet, 1, 0, 7);
        number("meet", meet, 2, 0, 7);
        number("meet", meet, 3, 0, 99);
        int[] letter = {5, 3, 4, 5, 5, 5};
        number("letter", letter, 0, 1, 99);
        number("letter", letter, 1, 0, 7);
        number("letter", letter, 2, 0, 7);
        number("letter", letter, 3, 1, 99);
        number("letter", letter, 4, 1, 64);
        number("letter", letter, 5, 1, 99);
    }

    private static void number(String name, int[] numbers, int which, int low, int high) {
        String ahead = name.equals("node") ? "" : EIGHT;
        int lines = name.equals("node") ? 1 : 9;
        for (int v = 0; v <= 100; v++) {
            if (which > 0 && which < 3 && v == numbers[3 - which]) {
                continue;
            }
            StringBuilder text = new StringBuilder(ahead).append(name);
            int place = 0;
            for (int i = 0; i < numbers.length; i++) {
                text.append(' ');
                place = i == which ? text.length() : place;
                text.append(i == which ? v : numbers[i]);
            }
            text.append(';');
            if (v >= low && v <= high) {
                taken(text.toString(), lines);
                SprayedLetters x = Check.told(text.toString());
                check.due("as told", name.equals("node") ? x.node(0, 0)
                        : name.equals("meet") ? x.meeting(0, which) : x.letter(0, which), v);
            } else {
                fault(text.toString(), v > 99 ? 1 : 3, place);
            }
        }
    }

    private static void tokensThatCanNotStandThere() {
        String meet = "meet 1 2 3 4;";
        String letter = "letter 1 2 3 4 5 6;";
        for (String line : new String[] {"node 5;", meet, letter}) {
            String[] tokens = line.replace(";", " ;").split(" ");
            StringBuilder ahead = new StringBuilder("  ");
            for (int i = 1; i < tokens.length; i++) {
                ahead.append(tokens[i - 1]).append(' ');
                int place = ahead.length();
                boolean number = i < tokens.length - 1;
                fault(ahead.toString(), 2, place);
                fault(ahead + "node", 2, place);
                fault(ahead + "?", 1, place);
                fault(ahead + (number ? ";" : "1"), 2, place);
            }
        }
        fault(";", 2, 0);
        fault("node 5;;", 2, 7);
        fault("node 5; 5", 2, 8);
    }

    private static void tooMany() {
        taken(EIGHT, 8);
        fault(EIGHT + "node9;", 4, 48);
        fault(EIGHT + "  node", 4, 50);
        fault(EIGHT + "node?", 4, 48);
        fault(EIGHT + "node 100", 4, 48);
        fault(EIGHT + "meet1 0 1 1;node9;", 4, 60);
        fault("node9;".repeat(7) + "meet1 0 1 1;node9;node9;", 4, 60);
        String nodes = "node9;node9;";
        String meets = "meet1 0 1 1;".repeat(23);
        taken(nodes + meets, 25);
        taken(nodes + meets + "meet1 0 1 1;", 26);
        fault(meets + "meet1 0 1 1;meet", 4, 288);
        fault(meets + "meet1 0 1 1; meet0;", 4, 289);
        fault(meets + "meet1 0 1 1;node9;", 6, 294);
        String letters = "letter1 0 1 1 1 1;".repeat(15);
        taken(nodes + letters, 17);
        taken(nodes + letters + "letter1 0 1 1 1 1;", 18);
        fault(letters + "letter1 0 1 1 1 1;letter", 4, 288);
        fault(letters + "letter1 0 1 1 1 1; letter0;", 4, 289);
        fault(letters + "letter1 0 1 1 1 1;node9;", 6, 294);
        countsAreOfOneText();
    }

    private static void countsAreOfOneText() {
        SprayedLetters x = new SprayedLetters();
        for (int i = 0; i < 3; i++) {
            check.due("eight again", Check.text(x, EIGHT), 8);
            check.due("nodes", x.rule(0), 8);
        }
        SprayedLetters y = Check.told("node99;node99;");
        for (int l = 0; l < 16; l++) {
            y.send(0, 1, 1, 1, 1);
        }
        check.due("sixteen again", Check.text(y, "node9;node9;" + "letter1 0 1 1 1 1;".repeat(16)), 18);
        check.due("letters", y.rule(2), 16);
        SprayedLetters z = new SprayedLetters();
        check.due("a fault behind 24 meetings", Check.text(z, "meet1 0 1 1;".repeat(24) + "?"), -298);
        check.due("meetings of a fault do not count", Check.text(z, "node1;node1;meet1 0 1 1;"), 3);
        check.due("meetings", z.rule(1), 1);
    }

    private static void pairs() {
        for (int n = 0; n < 8; n++) {
            fault(EIGHT + "meet 1 " + n + " " + n + " 5;", 5, 57);
            fault(EIGHT + "meet 1 " + n + " 0" + n, 5, 57);
            fault(EIGHT + "letter 1 " + n + " " + n + " 5 5 5;", 5, 59);
            for (int o = 0; o < 8; o++) {
                if (o != n) {
                    taken(EIGHT + "meet 1 " + n + " " + o + " 5;letter 1 " + o + " " + n + " 1 1 1;", 10);
                }
            }
        }
        // What was told in a line ahead is no number of this one.
        taken(EIGHT + "letter 9 1 2 9 9 9;meet 3 2 1 9;letter 1 0 3 1 1 1;", 11);
    }

    private static void nodesThatAreNot() {
        for (int nodes = 2; nodes < 8; nodes++) {
            String there = "node9;".repeat(nodes);
            int last = nodes - 1;
            String[] good = {"meet1 0 " + last + " 1;", "meet1 " + last + " 0 1;",
                "letter1 0 " + last + " 1 1 1;", "letter1 " + last + " 0 1 1 1;"};
            String[] bad = {"meet1 0 " + nodes + " 1;", "meet1 " + nodes + " 0 1;",
                "letter1 0 " + nodes + " 1 1 1;", "letter1 " + nodes + " 0 1 1 1;"};
            for (int i = 0; i < 4; i++) {
                taken(there + good[i], nodes + 1);
                taken(good[i] + there, nodes + 1);
                fault(there + bad[i], 6, nodes * 6 + bad[i].length());
                fault(bad[i] + there + good[i] + "  ", 6, nodes * 6 + bad[i].length() + good[i].length() + 2);
                taken(bad[i] + there + "node9;", nodes + 2);
            }
        }
        fault("meet1 0 1 1;", 6, 12);
        fault("letter1 1 0 1 1 1;", 6, 18);
        for (int n = 2; n < 8; n++) {
            fault("node9;node9;meet1 0 " + n + " 1;", 6, 24);
            fault("node9;node9;meet1 " + n + " 0 1;", 6, 24);
            fault("node9;node9;letter1 0 " + n + " 1 1 1;", 6, 30);
            fault("node9;node9;letter1 " + n + " 0 1 1 1;", 6, 30);
        }
    }

    /** "the first met as it is read (a token is read when the one before has been taken)". */
    private static void theFirstFault() {
        fault("meet 0 9 9 100", 3, 5);
        fault("meet 1 8 8 1;", 3, 7);
        fault("meet 1 7 8 1;", 3, 9);
        fault("meet 1 7 7 100;", 5, 9);
        fault("meet 1 7 7?", 5, 9);
        fault("meet 1 100 7 1;", 1, 7);
        fault("letter 1 3 3 0 0 0;", 5, 11);
        fault("letter 1 3 4 0 65 0;", 3, 13);
        fault("letter 1 3 4 1 65 0;", 3, 15);
        fault("letter 1 3 4 1 1 1 100;", 1, 19);
        fault("node 5 100;", 1, 7);
        fault("node 5 99;", 2, 7);
        fault("meet 1 0 1 1;nodes", 2, 13);
        fault("meet 1 0 1 1;?", 1, 13);
        fault("meet 1 0 1 1;meet 1 0 0 1;", 5, 22);
        fault("meet 1 0 1 1;node", 2, 17);
        fault("meet 1 0 1 1;" + EIGHT + "node", 4, 61);
        fault("node 5?;node 100;", 1, 6);
    }

    /** What stands behind the token of a FAULT is not read: be it a token or none, right or wrong. */
    private static void whateverIsBehindAFault() {
        String[] behind = {"", " ", "?", " ?", " 100", " node", ";", " ;?", " 9", " 1?", " 0 100"};
        for (String b : behind) {
            fault("?" + b, 1, 0);
            fault("node ?" + b, 1, 5);
            fault("node 123" + b, 1, 5);
            fault("node 5 123" + b, 1, 7);
            fault(";" + b, 2, 0);
            fault("12" + b, 2, 0);
            fault("nodes" + b, 2, 0);
            fault("node node" + b, 2, 5);
            fault("node 5 9" + b, 2, 7);
            fault("meet 1 2 3;" + b, 2, 10);
            fault("meet 0" + b, 3, 5);
            fault("meet 1 8" + b, 3, 7);
            fault("meet 1 2 8" + b, 3, 9);
            fault("letter 0" + b, 3, 7);
            fault("letter 1 8" + b, 3, 9);
            fault("letter 1 2 8" + b, 3, 11);
            fault("letter 1 2 3 0" + b, 3, 13);
            fault("letter 1 2 3 1 0" + b, 3, 15);
            fault("letter 1 2 3 1 65" + b, 3, 15);
            fault("letter 1 2 3 1 1 0" + b, 3, 17);
            fault(EIGHT + "node" + b, 4, 48);
            fault("meet 1 2 2" + b, 5, 9);
            fault("letter 1 2 2" + b, 5, 11);
        }
    }

    private static void faultOfTheLatestText() {
        SprayedLetters x = new SprayedLetters();
        check.due("no text yet", x.fault(), 0);
        String[] texts = {"?", "node", "meet 0", EIGHT + "node", "meet 1 1 1", "meet 1 0 1 1;"};
        for (int i = 0; i < texts.length; i++) {
            check.due("a fault", Check.text(x, texts[i]) <= -10);
            check.due("fault " + (i + 1), x.fault(), i + 1);
            x.feed('n');
            x.end(0);
            x.tick(1);
            x.tick(0);
            x.set(1, 1);
            x.keep(0);
            check.due("fault " + (i + 1) + " still", x.fault(), i + 1);
        }
        check.due("back", x.back(0), 6);
        check.due("no text was since", x.fault(), 6);
        check.due("taken", x.text(), 0);
        check.due("none", x.fault(), 0);
        check.due("a fault at 0 is -10", Check.text(x, "?"), -10);
        check.due("fault", x.fault(), 1);
        check.due("taken", Check.text(x, "node 5;"), 1);
        check.due("none", x.fault(), 0);
    }

    /** "that which was told stays": but THE TAPE, and the FAULT, all is as it was. */
    private static void faultsChangeNothing() {
        String[] texts = {"node 1;?", "node 1;node", "node 1;meet 0", EIGHT + "node", "node 1;meet 1 1 1;", "meet 1 0 1 1;"};
        for (int i = 0; i < texts.length; i++) {
            String text = texts[i];
            twins.alike("fault " + (i + 1), x -> {
                Twins.busy(x);
                x.end(0);
            }, x -> {
                Twins.busy(x);
                x.end(0);
                Check.text(x, text);
            }, false);
        }
    }

    private static void takenInPlaceOfWhatThereWas() {
        SprayedLetters x = new SprayedLetters();
        Twins.busy(x);
        x.end(0);
        check.due("taken", Check.text(x, "node 7;node 8;letter 1 0 1 2 3 4;"), 3);
        int[] rules = {2, 0, 1, 0, 6, 2, 3, 1, 0, 0, 0, 0, 0, 0, 0, 0, 0, 0, 0};
        for (int what = 0; what < rules.length; what++) {
            check.due("rule(" + what + ")", x.rule(what), rules[what]);
        }
        int[] node = {7, 0, 0, 0, 0};
        for (int what = 0; what < 5; what++) {
            check.due("node(0, " + what + ")", x.node(0, what), node[what]);
        }
        int[] letter = {1, 0, 1, 2, 3, 4, 0, NONE, NONE, 0, 0};
        for (int what = 0; what < letter.length; what++) {
            check.due("letter(0, " + what + ")", x.letter(0, what), letter[what]);
        }
        check.due("no third node", x.node(2, 0), BAD);
        check.due("no meeting", x.meeting(0, 0), BAD);
        check.due("no second letter", x.letter(1, 0), BAD);
        check.due("no copies", x.copy(0, 0, 0), NONE);
        check.due("no notes", x.note(0, 0) + x.note(1, 0), 0);
        check.due("nobody met", x.last(0, 1), NONE);
        check.due("no refusal", x.refusal(0), STATE);
        check.due("no image 0", x.back(0), STATE);
        check.due("no image 1", x.back(1), STATE);
        check.due("the next sent is the second", x.send(1, 0, 1, 1, 1), 1);
        check.due("no copies of the dead in new nodes", x.node(1, 2), 1);
    }

    /** The same text again, while there are COPIES of all that it tells. */
    private static void noCopiesBehindATakenText() {
        String text = "node 99;node 99;node 99;letter 1 0 2 5 8 60;letter 1 1 2 5 8 60;meet 1 0 1 99;";
        SprayedLetters x = Check.told(text);
        x.tick(1);
        check.due("copies in both", x.rule(8), 4);
        check.due("taken", Check.text(x, text), 6);
        check.due("no copies", x.rule(8), 0);
        for (int n = 0; n < 3; n++) {
            check.due("copies, load of " + n, x.node(n, 1) + x.node(n, 2), 0);
            check.due("first copy of " + n, x.copy(n, 0, 0), NONE);
        }
        check.due("of letter 0", x.letter(0, 9) + x.letter(0, 10), 0);
        check.due("all again", x.tick(1), 2);
        check.due("tokens", x.letter(0, 10), 8);
    }
}
