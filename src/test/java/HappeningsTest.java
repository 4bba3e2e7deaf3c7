/** Promises 16 to 22: tick, meet, send, set, draw, keep, back. */
final class HappeningsTest {
    private static final int BAD = SprayedLetters.BAD;
    private static final int STATE = SprayedLetters.STATE;
    private static final int FULL = SprayedLetters.FULL;
    private static final int NONE = SprayedLetters.NONE;
    private static final Check check = new Check();

    public static void main(String[] args) {
        wrongNumbers();
        minutes();
        meetingsOfAMinuteByNumber();
        handingByOrder();
        tokensByMode();
        cures();
        sends();
        sets();
        draws();
        images();
        check.finish();
    }

    private static void wrongNumbers() {
        SprayedLetters x = Check.told("node 9;node 9;");
        for (int n : new int[] {0, -1, 51, Integer.MIN_VALUE, Integer.MAX_VALUE}) {
            check.due("tick(" + n + ")", x.tick(n), BAD);
            check.due("draw(1, " + n + ")", x.draw(1, n), BAD);
        }
        check.due("draw(1, 21)", x.draw(1, 21), BAD);
        for (int n : new int[] {-1, 2, Integer.MIN_VALUE, Integer.MAX_VALUE}) {
            check.due("meet(" + n + ", 0, 9)", x.meet(n, 0, 9), BAD);
            check.due("meet(0, " + n + ", 9)", x.meet(0, n, 9), BAD);
            check.due("send(" + n + ", 0, ..)", x.send(n, 0, 1, 1, 1), BAD);
            check.due("send(0, " + n + ", ..)", x.send(0, n, 1, 1, 1), BAD);
            check.due("keep(" + n + ")", x.keep(n), BAD);
            check.due("back(" + n + ")", x.back(n), BAD);
        }
        check.due("meet(1, 1, 9)", x.meet(1, 1, 9), BAD);
        check.due("meet(0, 1, -1)", x.meet(0, 1, -1), BAD);
        check.due("meet(0, 1, 100)", x.meet(0, 1, 100), BAD);
        check.due("send(1, 1, ..)", x.send(1, 1, 1, 1, 1), BAD);
        int[][] wrong = {{0, 1, 1}, {100, 1, 1}, {1, 0, 1}, {1, 65, 1}, {1, 1, 0}, {1, 1, 100}};
        for (int[] w : wrong) {
            check.due("send(0, 1, " + w[0] + ", " + w[1] + ", " + w[2] + ")", x.send(0, 1, w[0], w[1], w[2]), BAD);
        }
        check.due("nothing was", x.rule(3) + x.rule(15) + x.rule(2) + x.rule(18), 0);
    }

    private static void minutes() {
        SprayedLetters x = Check.told("node 20;node 20;letter 3 0 1 20 1 2;letter 5 0 1 20 1 2;letter 5 0 1 20 1 2;");
        check.due("tick(1)", x.tick(1), 0);
        check.due("clock", x.rule(3), 1);
        x.tick(3);
        check.due("lives", x.letter(0, 6), 1);
        x.tick(1);
        check.due("gone as its life ends", x.letter(0, 6), 3);
        check.due("expired", x.rule(13), 1);
        check.due("what ends gives room to what is born", x.letter(1, 6), 1);
        check.due("by number: the next is lost", x.letter(2, 6), 3);
        check.due("lost", x.rule(14), 1);
        x.tick(50);
        check.due("clock", x.rule(3), 55);
        SprayedLetters y = Check.told("node 20;node 20;letter 1 0 1 20 1 2;meet 3 0 1 99;");
        y.tick(3);
        check.due("it ends ahead of the meeting", y.rule(10), 0);
        SprayedLetters z = Check.told("node 20;node 20;letter 1 0 1 20 1 2;meet 1 0 1 99;");
        check.due("it is born ahead of the meeting", z.tick(1), 1);
        check.due("no minutes", z.rule(16), 0);
        SprayedLetters v = Check.told("node 20;node 20;letter 1 0 1 20 1 9;meet 2 0 1 9;");
        v.set(0, 3);
        v.tick(12);
        check.due("2, 5, 8, 11", v.rule(15), 4);
        check.due("last", v.last(0, 1), 11);
    }

    private static void meetingsOfAMinuteByNumber() {
        SprayedLetters x = Check.told("node 9;node 9;node 9;letter 1 0 2 5 4 9;meet 1 0 1 9;meet 1 1 2 9;");
        check.due("on at once", x.tick(1), 2);
        check.due("hops", x.letter(0, 8), 2);
        SprayedLetters y = Check.told("node 9;node 9;node 9;letter 1 0 2 5 4 9;meet 1 1 2 9;meet 1 0 1 9;");
        check.due("too late", y.tick(1), 1);
        check.due("not there", y.letter(0, 7), NONE);
    }

    /** Narrow meetings show by what is handed who comes first. */
    private static void handingByOrder() {
        SprayedLetters x = Check.told("node 99;node 99;node 99;node 99;letter 1 0 2 10 4 60;letter 1 0 1 10 4 60;");
        x.tick(1);
        x.meet(0, 1, 10);
        check.due("those to the taker first", x.letter(1, 6), 2);
        check.due("not the other", x.letter(0, 9), 1);
        SprayedLetters y = Check.told("node 99;node 99;node 99;node 99;letter 1 0 2 10 4 60;letter 1 1 2 10 4 60;");
        y.tick(1);
        y.meet(0, 1, 10);
        y.meet(1, 3, 10);
        check.due("fewer hops first", y.copy(3, 0, 0), 1);
        SprayedLetters z = Check.told("node 99;node 99;node 99;letter 1 0 2 10 4 60;letter 1 0 2 10 4 60;");
        z.tick(1);
        z.meet(0, 1, 10);
        check.due("lesser letters first", z.copy(1, 0, 0), 0);
        SprayedLetters v = Check.told("node 99;node 99;letter 1 0 1 10 4 60;letter 1 1 0 10 4 60;");
        v.tick(1);
        v.meet(1, 0, 10);
        check.due("the first hands first", v.letter(1, 6), 2);
        check.due("then nothing is left", v.letter(0, 6), 1);
    }

    private static void tokensByMode() {
        int[][] keeps = {{4, 1}, {4, 1}, {4, 1}, {7, 1}};
        int[][] gets = {{3, 1}, {3, 0}, {3, 0}, {0, 0}};
        for (int mode = 0; mode < 4; mode++) {
            SprayedLetters x = Check.told("node 99;node 99;node 99;letter 1 0 2 1 7 9;letter 1 0 2 1 1 9;");
            x.set(1, mode);
            x.tick(1);
            x.meet(1, 0, 99);
            for (int l = 0; l < 2; l++) {
                check.due("mode " + mode + " keeps", x.copy(0, l, 1), keeps[mode][l]);
                int i = x.copy(1, l, 1);
                check.due("mode " + mode + " gets", i < 0 ? 0 : i, gets[mode][l]);
            }
        }
    }

    private static void cures() {
        SprayedLetters x = Check.told("node 99;node 99;node 99;letter 1 0 2 5 4 60;");
        x.tick(1);
        x.meet(0, 1, 99);
        x.meet(1, 2, 99);
        check.due("a copy is left", x.letter(0, 9), 1);
        check.due("it is cured ahead of handing", x.meet(0, 2, 99), 0);
        check.due("cured", x.rule(12), 1);
        check.due("none is left", x.letter(0, 9), 0);
        check.due("delivered once", x.rule(10), 1);
        SprayedLetters y = Check.told("node 99;node 99;node 99;letter 1 0 2 5 4 60;");
        y.tick(1);
        y.meet(0, 1, 99);
        y.meet(1, 2, 99);
        check.due("no refusal yet but of what was known", y.refusal(0), 1);
        y.meet(1, 0, 0);
        check.due("the other's is cured, too", y.rule(12), 1);
        check.due("ahead of handing: it is not refused", y.refusal(0), 1);
        check.due("none is left", y.node(0, 2), 0);
    }

    private static void sends() {
        SprayedLetters x = Check.told("node 99;node 9;letter 1 0 1 1 1 1;");
        x.tick(7);
        for (int l = 1; l < 16; l++) {
            check.due("send", x.send(0, 1, 2, 64, 99), l);
        }
        check.due("the 17th", x.send(0, 1, 1, 1, 1), FULL);
        check.due("bad ahead of full", x.send(0, 1, 0, 1, 1), BAD);
        check.due("letters", x.rule(2), 16);
        int[] due = {7, 0, 1, 2, 64, 99, 1, NONE, NONE, 1, 64};
        for (int what = 0; what < due.length; what++) {
            check.due("sent letter(15, " + what + ")", x.letter(15, what), due[what]);
        }
        check.due("since", x.copy(0, 14, 3), 7);
        x.tick(1);
        check.due("it is not born again", x.rule(8), 15);
        check.due("handed", x.meet(0, 1, 99), 15);
        check.due("minutes", x.rule(16), 15);
        SprayedLetters y = Check.told("node 9;node 9;");
        check.due("lost, but a letter", y.send(0, 1, 10, 1, 1), 0);
        check.due("lost", y.rule(14), 1);
        check.due("gone", y.letter(0, 6), 3);
        check.due("birth", y.letter(0, 0), 0);
    }

    private static void sets() {
        SprayedLetters x = new SprayedLetters();
        int[] first = {0, 1, 1, 0};
        int[] most = {99, 3, 3, 9};
        for (int what = 0; what < 4; what++) {
            check.due("set to most", x.set(what, most[what]), first[what]);
            check.due("set too high", x.set(what, most[what] + 1), BAD);
            check.due("set too low", x.set(what, -1), BAD);
            check.due("rule", x.rule(4 + what), most[what]);
            check.due("set to 0", x.set(what, 0), most[what]);
            check.due("rule", x.rule(4 + what), 0);
        }
        check.due("set(4, 0)", x.set(4, 0), BAD);
        check.due("set(-1, 0)", x.set(-1, 0), BAD);
    }

    private static void draws() {
        SprayedLetters none = new SprayedLetters();
        check.due("bad ahead of state", none.draw(1, 0), BAD);
        check.due("no nodes", none.draw(1, 1), STATE);
        check.due("one node", Check.told("node 1;").draw(1, 1), STATE);
        for (int seed : new int[] {0, 1, 7, -1, Integer.MIN_VALUE, Integer.MAX_VALUE, 123456789}) {
            drawOne(seed, 2);
            drawOne(seed, 5);
            drawOne(seed, 8);
        }
        SprayedLetters x = Check.told("node 99;node 99;node 99;letter 1 0 2 1 9 99;meet 1 0 2 9;");
        check.due("those of the minutes, too", x.draw(5, 20), 1);
        check.due("clock", x.rule(3), 20);
        check.due("meetings", x.rule(15), 21);
    }

    /** Who met in a drawn meeting, and how wide it was, by letters of all sizes from each node. */
    private static void drawOne(int seed, int nodes) {
        long s = seed;
        long[] got = new long[3];
        for (int i = 0; i < 3; i++) {
            s = Math.floorMod(s * 1103515245L + 12345L, 1L << 32);
            got[i] = s / 65536 % 32768;
        }
        int first = (int) (got[0] % nodes);
        int other = (int) ((first + 1 + got[1] % (nodes - 1)) % nodes);
        int width = (int) (got[2] % 100);
        SprayedLetters x = Check.told("node 99;".repeat(nodes));
        if (width > 0) {
            x.send(first, other, width, 1, 9);
        }
        check.due("draw(" + seed + ", 1)", x.draw(seed, 1), width > 0 ? 1 : 0);
        check.due("who met", x.last(first, other), 1);
        check.due("how many met", x.node(first, 4), 1);
        SprayedLetters y = Check.told("node 99;".repeat(nodes));
        if (width < 99) {
            y.send(other, first, width + 1, 1, 9);
            check.due("draw too narrow", y.draw(seed, 1), 0);
            check.due("narrow", y.refusal(0), 3);
            check.due("first is first", y.refusal(4), first);
        }
    }

    private static void images() {
        Twins.Calls first = x -> {
            Check.text(x, "node 20;node 20;node 20;letter 1 0 2 5 8 60;letter 4 0 2 18 8 60;meet 2 0 1 99;meet 9 1 2 99;");
            check.due("no images", x.rule(18), 0);
            x.tick(2);
            check.due("hops, since", x.copy(1, 0, 2) + 10 * x.copy(1, 0, 3), 21);
            check.due("keep(0)", x.keep(0), 0);
            check.due("keep(0) again", x.keep(0), 1);
            check.due("one image", x.rule(18), 1);
            check.due("no image 1", x.back(1), STATE);
        };
        Twins.Calls then = x -> {
            first.on(x);
            x.set(0, 3);
            x.set(1, 0);
            x.set(2, 2);
            x.set(3, 5);
            x.tick(10);
            x.send(1, 0, 3, 2, 9);
            x.meet(1, 2, 99);
            check.due("keep(1)", x.keep(1), 0);
        };
        Twins.Calls back = x -> {
            then.on(x);
            Check.feed(x, "node");
            check.due("back(0)", x.back(0), 2);
        };
        Twins.Calls forth = x -> {
            back.on(x);
            x.tick(3);
            check.due("back(1)", x.back(1), 12);
        };
        check.due("it has changed", !Twins.whole(then).equals(Twins.whole(first)));
        check.due("as image 0", Twins.whole(back).equals(Twins.whole(first)));
        check.due("as image 1", Twins.whole(forth).equals(Twins.whole(then)));
        SprayedLetters x = new SprayedLetters();
        forth.on(x);
        check.due("the tape is not of it", x.rule(17), 4);
        check.due("images are not of it", x.rule(18), 2);
        check.due("a faulty text", x.text(), -14);
        check.due("back(1)", x.back(1), 12);
        check.due("the fault is of the latest text", x.fault(), 2);
        check.due("back(0) again", x.back(0), 2);
        check.due("the fault is of the latest text still", x.fault(), 2);
    }
}
