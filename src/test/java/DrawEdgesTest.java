import java.math.BigInteger;

/** Promise 20 at its edges: the seed and its wrap-around, who meets, how wide, and what a MINUTE ahead does. */
final class DrawEdgesTest {
    private static final int STATE = SprayedLetters.STATE;
    private static final int NONE = SprayedLetters.NONE;
    private static final BigInteger TIMES = BigInteger.valueOf(1103515245);
    private static final BigInteger AND = BigInteger.valueOf(12345);
    private static final int[] SEEDS = {0, 1, 2, 99, -1, -2, 12345, 65535, 65536, 1103515245, -1103515245,
        Integer.MAX_VALUE, Integer.MAX_VALUE - 1, Integer.MIN_VALUE, Integer.MIN_VALUE + 1};
    private static final Check check = new Check();

    public static void main(String[] args) {
        knownNumbers();
        seedsThatWrapAround();
        theHighestBitDoesNotCount();
        fewAndManyNodes();
        firstIsFirst();
        aMinuteAheadOfEachMeeting();
        handedByMinutesToo();
        everyCallBeginsWithItsSeed();
        tooFewNodes();
        check.finish();
    }

    /** Bits 16 to 30, as numbers without bounds have them: 2 to the 31 takes off whole turns alone. */
    private static int[] got(int seed, int count) {
        BigInteger s = BigInteger.valueOf(seed);
        int[] all = new int[count];
        for (int i = 0; i < count; i++) {
            s = s.multiply(TIMES).add(AND).mod(BigInteger.ONE.shiftLeft(31));
            all[i] = s.shiftRight(16).intValueExact();
        }
        return all;
    }

    private static void numbers(int seed, int... due) {
        int[] all = got(seed, due.length);
        for (int i = 0; i < due.length; i++) {
            check.due("seed " + seed + ", got " + i, all[i], due[i]);
        }
    }

    /** The numbers that this way to draw is known for, and the meetings that they are. */
    private static void knownNumbers() {
        numbers(0, 0, 21468, 9988, 22117, 3498, 16927);
        numbers(1, 16838, 5758, 10113, 17515, 31051, 5627);
        SprayedLetters x = Check.told("node 99;".repeat(5));
        check.due("draw(1, 2)", x.draw(1, 2), 0);
        // 16838 of 5 is 3; 5758 of 4 is 2: 4, 0, 1. Then 17515 of 5 is 0; 31051 of 4 is 3: 1, 2, 3, 4.
        check.due("3 and 1", x.last(3, 1), 1);
        check.due("0 and 4", x.last(0, 4), 2);
        check.due("no others", x.node(0, 4) + x.node(1, 4) + x.node(2, 4) + x.node(3, 4) + x.node(4, 4), 4);
        SprayedLetters y = Check.told("node 99;".repeat(5));
        y.send(3, 1, 13, 1, 9);
        y.send(4, 0, 27, 1, 9);
        check.due("10113 is 13 wide, 5627 is 27 wide", y.draw(1, 2), 2);
        SprayedLetters z = Check.told("node 99;".repeat(5));
        z.send(3, 1, 14, 1, 9);
        z.send(4, 0, 28, 1, 9);
        check.due("not wider", z.draw(1, 2), 0);
    }

    private static void seedsThatWrapAround() {
        for (int seed : SEEDS) {
            for (int nodes : new int[] {2, 3, 7, 8}) {
                drawn(seed, nodes);
            }
        }
    }

    /** Each of 20 meetings, by who met when, by what was wide enough. */
    private static void drawn(int seed, int nodes) {
        int[] got = got(seed, 60);
        for (int n = 1; n <= 20; n++) {
            int first = got[3 * n - 3] % nodes;
            int other = (first + 1 + got[3 * n - 2] % (nodes - 1)) % nodes;
            int width = got[3 * n - 1] % 100;
            check.due("width " + width + " of the last", handed(seed, n, nodes, first, other, width), width > 0 ? 1 : 0);
            check.due("not one more", handed(seed, n, nodes, first, other, width + 1), 0);
        }
    }

    /** The letter is born in the last MINUTE alone, at FIRST: whether it came to OTHER. */
    private static int handed(int seed, int n, int nodes, int first, int other, int size) {
        if (size < 1 || size > 99) {
            return 0;
        }
        SprayedLetters x = Check.told("node 99;".repeat(nodes) + "letter " + n + " " + first + " " + other + " " + size + " 1 1;");
        int handed = x.draw(seed, n);
        check.due("who met in the last", x.last(first, other), n);
        check.due("clock", x.rule(3), n);
        check.due("meetings", x.rule(15), n);
        return handed;
    }

    private static void theHighestBitDoesNotCount() {
        for (int seed : SEEDS) {
            SprayedLetters x = Check.told("node 30;node 30;node 30;node 30;letter 1 0 3 5 8 60;letter 2 1 2 7 8 60;");
            SprayedLetters y = Check.told("node 30;node 30;node 30;node 30;letter 1 0 3 5 8 60;letter 2 1 2 7 8 60;");
            check.due("handed alike", x.draw(seed, 20), y.draw(seed ^ Integer.MIN_VALUE, 20));
            for (int a = 0; a < 4; a++) {
                for (int b = 0; b < 4; b++) {
                    check.due("last alike", x.last(a, b), y.last(a, b));
                }
            }
        }
    }

    private static void fewAndManyNodes() {
        SprayedLetters x = Check.told("node 9;node 9;");
        x.draw(5, 20);
        check.due("of two nodes it is always both", x.last(0, 1), 20);
        SprayedLetters y = Check.told("node 9;".repeat(8));
        int met = 0;
        for (int i = 0; i < 20; i++) {
            y.draw(i * 7919, 20);
        }
        for (int n = 0; n < 8; n++) {
            met += y.node(n, 4);
        }
        check.due("of eight nodes each meets each", met, 56);
        check.due("meetings", y.rule(15), 400);
    }

    /** Both have a LETTER to the other for which alone it is wide enough: FIRST's is there. */
    private static void firstIsFirst() {
        for (int seed : SEEDS) {
            int[] got = got(seed, 3);
            int first = got[0] % 4;
            int other = (first + 1 + got[1] % 3) % 4;
            int width = got[2] % 100;
            if (width == 0) {
                continue;
            }
            SprayedLetters x = Check.told("node 99;".repeat(4));
            x.send(other, first, width, 1, 9);
            x.send(first, other, width, 1, 9);
            check.due("one", x.draw(seed, 1), 1);
            check.due("first's", x.letter(1, 6) * 10 + x.letter(0, 6), 21);
        }
    }

    private static void aMinuteAheadOfEachMeeting() {
        // By seed 1 the meetings of two nodes: 16838 of 2 is 0, 13 wide; then 17515 of 2 is 1, 27 wide.
        SprayedLetters x = Check.told("node 99;node 99;letter 1 0 1 13 1 1;letter 2 0 1 27 1 1;letter 3 0 1 1 1 1;");
        check.due("each in the minute of its birth", x.draw(1, 2), 2);
        check.due("clock", x.rule(3), 2);
        check.due("delivered at", x.letter(0, 7) * 10 + x.letter(1, 7), 12);
        check.due("the third is not born", x.letter(2, 6), 0);
        SprayedLetters y = Check.told("node 99;node 99;");
        y.send(0, 1, 1, 1, 1);
        check.due("it ends in the minute ahead", y.draw(1, 1), 0);
        check.due("expired", y.rule(13), 1);
    }

    private static void handedByMinutesToo() {
        SprayedLetters x = Check.told("node 99;node 99;node 99;letter 1 0 1 50 1 9;letter 1 2 0 1 1 9;meet 1 0 1 50;meet 2 2 0 9;");
        int handed = x.draw(0, 2);
        check.due("those told are counted", handed, 2);
        check.due("handed", x.rule(9), 2);
        check.due("two told, two drawn", x.rule(15), 4);
        SprayedLetters y = Check.told("node 9;node 9;meet 1 0 1 0;");
        y.set(0, 1);
        y.draw(0, 20);
        check.due("by rounds", y.rule(15), 40);
        check.due("told ones are as they were", y.rule(1), 1);
        check.due("next", y.meeting(0, 4), 21);
    }

    private static void everyCallBeginsWithItsSeed() {
        String text = "node 99;node 99;node 99;node 99;letter 1 0 3 5 8 60;";
        SprayedLetters x = Check.told(text);
        x.keep(0);
        int once = x.draw(42, 7);
        int[] lasts = new int[16];
        for (int i = 0; i < 16; i++) {
            lasts[i] = x.last(i / 4, i % 4);
        }
        x.back(0);
        check.due("the same again", x.draw(42, 7), once);
        for (int i = 0; i < 16; i++) {
            check.due("last", x.last(i / 4, i % 4), lasts[i]);
        }
    }

    private static void tooFewNodes() {
        for (int seed : SEEDS) {
            SprayedLetters none = new SprayedLetters();
            check.due("none", none.draw(seed, 20), STATE);
            check.due("clock stays", none.rule(3), 0);
            SprayedLetters one = Check.told("node 9;");
            check.due("one", one.draw(seed, 1), STATE);
            check.due("clock stays", one.rule(3), 0);
            SprayedLetters two = Check.told("node 9;node 9;");
            check.due("two", two.draw(seed, 1), 0);
            check.due("clock", two.rule(3), 1);
            check.due("no refusal", two.refusal(0), STATE);
            check.due("no letters", two.copy(0, 0, 0), NONE);
        }
    }
}
