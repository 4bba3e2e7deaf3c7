/** How ROOM is MADE, at its edges: what just FITS, which COPIES go and how many, and what can not be MADE. */
final class RoomEdgesTest {
    private static final int STATE = SprayedLetters.STATE;
    private static final int NONE = SprayedLetters.NONE;
    private static final int SMALL = 5, KEPT = 6, OWN = 7;
    private static final Check check = new Check();

    public static void main(String[] args) {
        fitsForOneThatIsBorn();
        fitsForOneThatIsHanded();
        noRoomAtAllAndAllRoom();
        goTillItFits();
        leastSince();
        sinceIsWhenItCame();
        greatestSize();
        endsFirst();
        ofLikeOnesTheLeastLetter();
        neverOnesOwn();
        ownThatCameBack();
        ownThatCameBackStays();
        canItNotFitNoneGoes();
        whatItComesOf();
        onlyForWhatIsHanded();
        check.finish();
    }

    /** Node 0 wide, node 1 of a room, node 2 the receiver; by a policy. */
    private static SprayedLetters three(int room, int policy) {
        SprayedLetters x = Check.told("node 99;node " + room + ";node 0;");
        x.set(2, policy);
        return x;
    }

    /** Node 0 hands a letter of two tokens to node 1, so that each has a copy. */
    private static void put(SprayedLetters x, int size, int life) {
        int l = x.send(0, 2, size, 2, life);
        check.due("letter " + l + " comes to node 1", x.why(0, 1, l, 99), 0);
        x.meet(0, 1, 99);
        check.due("letter " + l + " is in both", x.letter(l, 9), 2);
    }

    private static boolean has(SprayedLetters x, int n, int l) {
        for (int i = 0; i < 16; i++) {
            if (x.copy(n, i, 0) == l) {
                return true;
            }
        }
        return false;
    }

    /** Which of the first letters node n has, as a number in base ten: 101 for letters 0 and 2. */
    private static int which(SprayedLetters x, int n, int letters) {
        int all = 0;
        for (int l = letters - 1; l >= 0; l--) {
            all = all * 10 + (has(x, n, l) ? 1 : 0);
        }
        return all;
    }

    private static void fitsForOneThatIsBorn() {
        for (int policy = 0; policy < 4; policy++) {
            SprayedLetters x = three(20, policy);
            x.send(1, 2, 12, 1, 9);
            check.due("load and size are room", x.letter(x.send(1, 2, 8, 1, 9), 6), 1);
            check.due("none lost", x.rule(14), 0);
            SprayedLetters y = three(20, policy);
            y.send(1, 2, 12, 1, 9);
            check.due("one above", y.letter(y.send(1, 2, 9, 1, 9), 6), 3);
            check.due("lost", y.rule(14), 1);
            check.due("none goes", y.rule(11), 0);
            check.due("load", y.node(1, 1), 12);
        }
    }

    private static void fitsForOneThatIsHanded() {
        for (int policy = 0; policy < 4; policy++) {
            SprayedLetters x = three(20, policy);
            put(x, 12, 9);
            put(x, 8, 9);
            check.due("load and size are room: none goes", x.rule(11), 0);
            check.due("load", x.node(1, 1), 20);
            SprayedLetters y = three(20, policy);
            put(y, 12, 9);
            int l = y.send(0, 2, 9, 2, 9);
            check.due("one above", y.why(0, 1, l, 99), policy == 0 ? KEPT : 0);
            check.due("handed", y.meet(0, 1, 99), policy == 0 ? 0 : 1);
            check.due("dropped", y.rule(11), policy == 0 ? 0 : 1);
            check.due("load", y.node(1, 1), policy == 0 ? 12 : 9);
        }
    }

    private static void noRoomAtAllAndAllRoom() {
        for (int policy = 0; policy < 4; policy++) {
            SprayedLetters x = three(0, policy);
            int l = x.send(0, 2, 1, 2, 9);
            check.due("size 1 is above room 0", x.why(0, 1, l, 99), SMALL);
            check.due("to the receiver no room is needed", x.why(0, 2, l, 99), 0);
            check.due("lost", x.letter(x.send(1, 0, 1, 1, 9), 6), 3);
            SprayedLetters y = three(99, policy);
            check.due("size 99 in room 99", y.letter(y.send(0, 2, 99, 2, 9), 6), 1);
            check.due("handed", y.meet(0, 1, 99), 1);
            check.due("load", y.node(1, 1), 99);
            check.due("to the receiver", y.meet(2, 0, 99), 1);
            check.due("who has no load", y.node(2, 1), 0);
        }
    }

    /** Three of ten are there, of room 30: how many go for a size. */
    private static void goTillItFits() {
        int[][] due = {{1, 1}, {10, 1}, {11, 2}, {20, 2}, {21, 3}, {30, 3}};
        for (int policy = 1; policy < 4; policy++) {
            for (int[] d : due) {
                SprayedLetters x = three(30, policy);
                for (int i = 0; i < 3; i++) {
                    put(x, 10, 9);
                }
                int l = x.send(0, 2, d[0], 2, 9);
                check.due("asking drops none", x.why(0, 1, l, 99) + x.rule(11), 0);
                check.due("handed", x.meet(0, 1, 99), 1);
                check.due("dropped for " + d[0], x.rule(11), d[1]);
                check.due("load", x.node(1, 1), 30 - 10 * d[1] + d[0]);
                check.due("copies", x.node(1, 2), 4 - d[1]);
            }
            SprayedLetters x = three(30, policy);
            int l = x.send(0, 2, 31, 2, 9);
            check.due("one above room", x.why(0, 1, l, 99), SMALL);
        }
    }

    private static void leastSince() {
        SprayedLetters x = three(40, 1);
        int[] sizes = {12, 14, 13};
        int[] lives = {40, 10, 20};
        for (int i = 0; i < 3; i++) {
            x.tick(1);
            put(x, sizes[i], lives[i]);
        }
        x.tick(1);
        put(x, 2, 9);
        check.due("the first that came", which(x, 1, 4), 1110);
        x.tick(1);
        put(x, 12, 9);
        check.due("then the second", which(x, 1, 5), 11100);
    }

    /** Letter 0 is older, but it came to node 1 behind letter 1. */
    private static void sinceIsWhenItCame() {
        SprayedLetters x = three(20, 1);
        x.send(0, 2, 10, 2, 60);
        x.tick(1);
        x.send(0, 2, 9, 2, 60);
        x.meet(0, 1, 0);
        x.meet(0, 1, 9);
        check.due("only the narrow one came", which(x, 1, 2), 10);
        x.tick(1);
        x.meet(0, 1, 10);
        check.due("then the other", which(x, 1, 2), 11);
        check.due("since", x.copy(1, 0, 3) * 10 + x.copy(1, 1, 3), 21);
        put(x, 9, 60);
        check.due("that of least since goes", which(x, 1, 3), 101);
    }

    private static void greatestSize() {
        SprayedLetters x = three(40, 2);
        int[] sizes = {12, 14, 13};
        for (int i = 0; i < 3; i++) {
            x.tick(1);
            put(x, sizes[i], 40 + i);
        }
        put(x, 3, 30);
        check.due("the greatest", which(x, 1, 4), 1101);
        put(x, 20, 30);
        check.due("the next greatest", which(x, 1, 5), 11001);
    }

    private static void endsFirst() {
        // Letter 0 ends in minute 31, letter 1 in 25, letter 2 in 26, though its life is the shortest.
        SprayedLetters x = three(30, 3);
        int[][] births = {{1, 30}, {5, 20}, {9, 17}};
        for (int[] b : births) {
            x.tick(b[0] - x.rule(3));
            put(x, 10, b[1]);
        }
        put(x, 1, 90);
        check.due("that which ends first", which(x, 1, 4), 1101);
        put(x, 10, 90);
        check.due("then the next", which(x, 1, 5), 11001);
        // It is the end that counts, not the life: letter 1 lives shorter, but ends later.
        SprayedLetters y = three(20, 3);
        y.tick(1);
        put(y, 10, 20);
        y.tick(9);
        put(y, 10, 15);
        put(y, 1, 90);
        check.due("21 is ahead of 25", which(y, 1, 3), 110);
    }

    /** The later letters came first by number alone: all else is alike. */
    private static void ofLikeOnesTheLeastLetter() {
        for (int policy = 1; policy < 4; policy++) {
            SprayedLetters x = three(30, policy);
            for (int i = 0; i < 3; i++) {
                put(x, 10, 50);
            }
            put(x, 10, 50);
            check.due("policy " + policy + ": the least letter", which(x, 1, 4), 1110);
            put(x, 20, 50);
            check.due("policy " + policy + ": the two least", which(x, 1, 5), 11000);
        }
        // Of like ends, though births and lives differ; of like sizes, though the later came first.
        SprayedLetters y = three(30, 3);
        put(y, 15, 30);
        y.tick(10);
        put(y, 15, 20);
        put(y, 1, 50);
        check.due("ends alike", which(y, 1, 3), 110);
        SprayedLetters z = three(30, 2);
        z.send(0, 2, 15, 2, 50);
        z.send(0, 1, 15, 2, 50);
        z.meet(0, 1, 15);
        z.send(0, 2, 14, 2, 50);
        z.meet(0, 1, 14);
        check.due("the lesser is not there yet", which(z, 1, 3), 100);
        z.tick(1);
        z.meet(0, 1, 15);
        check.due("now it is", which(z, 1, 3), 101);
        put(z, 2, 50);
        check.due("greatest size", which(z, 1, 4), 1100);
    }

    /** By each policy one's own would be the first to go. */
    private static void neverOnesOwn() {
        for (int policy = 1; policy < 4; policy++) {
            SprayedLetters x = three(40, policy);
            x.send(1, 2, 20, 1, 5);
            x.tick(1);
            put(x, 10, 50);
            put(x, 10, 50);
            put(x, 10, 50);
            check.due("policy " + policy + ": own stays", which(x, 1, 4), 1101);
            check.due("for own others go", x.letter(x.send(1, 0, 20, 1, 9), 6), 1);
            check.due("all of them", which(x, 1, 5), 10001);
            check.due("load", x.node(1, 1), 40);
            check.due("for own own does not go", x.letter(x.send(1, 0, 1, 1, 9), 6), 3);
            check.due("lost", x.rule(14), 1);
            check.due("dropped", x.rule(11), 3);
        }
        // It is FROM that counts: the own letter of the giver goes in the taker.
        SprayedLetters y = three(10, 1);
        put(y, 10, 50);
        put(y, 10, 50);
        check.due("that of the giver goes", which(y, 1, 2), 10);
        check.due("but not in the giver", which(y, 0, 2), 11);
    }

    /** MODE 2 takes the only COPY away from FROM, and brings it back. */
    private static void ownThatCameBack() {
        SprayedLetters x = Check.told("node 10;node 30;node 0;");
        x.set(1, 2);
        x.send(0, 2, 10, 1, 90);
        x.meet(1, 2, 0);
        check.due("to who met later", x.meet(0, 1, 99), 1);
        check.due("it is not in its own", which(x, 0, 1) * 10 + which(x, 1, 1), 1);
        check.due("dropped none", x.rule(11), 0);
        x.tick(1);
        x.meet(0, 2, 0);
        check.due("back to who met later", x.meet(0, 1, 99), 1);
        check.due("it is in its own", which(x, 0, 1) * 10 + which(x, 1, 1), 10);
        check.due("hops", x.copy(0, 0, 2), 2);
        int l = x.send(1, 2, 5, 2, 90);
        check.due("it is own still", x.why(1, 0, l, 99), OWN);
        x.meet(1, 0, 99);
        check.due("and stays", which(x, 0, 2), 1);
        check.due("lost", x.letter(x.send(0, 1, 1, 1, 9), 6), 3);
    }

    /** What came back to FROM by hops stays, while by each policy it would go ahead of what goes. */
    private static void ownThatCameBackStays() {
        for (int policy = 1; policy < 4; policy++) {
            SprayedLetters x = Check.told("node 20;node 30;node 0;");
            x.set(1, 2);
            x.set(2, policy);
            x.send(0, 2, 11, 1, 20);
            x.meet(1, 2, 0);
            x.meet(0, 1, 99);
            x.tick(1);
            x.meet(0, 2, 0);
            x.meet(0, 1, 99);
            check.due("own, by two hops", x.copy(0, 0, 0) * 10 + x.copy(0, 0, 2), 2);
            x.tick(1);
            x.send(1, 2, 9, 4, 90);
            check.due("another's beside it", x.meet(1, 0, 99), 1);
            x.tick(1);
            x.send(0, 1, 5, 1, 90);
            check.due("policy " + policy + ": another's goes", which(x, 0, 3), 101);
            check.due("dropped", x.rule(11), 1);
        }
    }

    private static void canItNotFitNoneGoes() {
        for (int policy = 1; policy < 4; policy++) {
            SprayedLetters x = three(30, policy);
            x.send(1, 2, 10, 1, 90);
            put(x, 10, 50);
            put(x, 10, 50);
            int l = x.send(0, 2, 21, 2, 50);
            check.due("own is in the way", x.why(0, 1, l, 99), OWN);
            int handed = x.rule(9);
            check.due("not handed", x.meet(0, 1, 99), 0);
            check.due("none goes", which(x, 1, 4), 111);
            check.due("dropped", x.rule(11), 0);
            check.due("handed", x.rule(9), handed);
            check.due("the giver keeps all", x.letter(l, 10) * 10 + x.letter(l, 9), 21);
            check.due("born, own is in the way", x.letter(x.send(1, 2, 21, 2, 50), 6), 3);
            check.due("none goes", which(x, 1, 4), 111);
            check.due("lost", x.rule(14), 1);
            check.due("born, all others go", x.letter(x.send(1, 2, 20, 2, 50), 6), 1);
            check.due("both go", which(x, 1, 6), 100001);
        }
    }

    /** "that comes of, the first: 5 SMALL, 6 KEPT, 7 OWN". */
    private static void whatItComesOf() {
        SprayedLetters x = three(20, 1);
        x.send(1, 2, 15, 1, 90);
        int fits = x.send(0, 2, 5, 2, 90);
        int above = x.send(0, 2, 6, 2, 90);
        int most = x.send(0, 2, 20, 2, 90);
        int small = x.send(0, 2, 21, 2, 90);
        int[][] due = {{0, KEPT, KEPT, SMALL}, {0, OWN, OWN, SMALL}, {0, OWN, OWN, SMALL}, {0, OWN, OWN, SMALL}};
        for (int policy = 0; policy < 4; policy++) {
            x.set(2, policy);
            check.due("fits", x.why(0, 1, fits, 99), due[policy][0]);
            check.due("one above", x.why(0, 1, above, 99), due[policy][1]);
            check.due("as great as room", x.why(0, 1, most, 99), due[policy][2]);
            check.due("above room", x.why(0, 1, small, 99), due[policy][3]);
        }
        refusedFor(0, 6, KEPT);
        refusedFor(0, 21, SMALL);
        refusedFor(1, 6, OWN);
        refusedFor(3, 20, OWN);
        refusedFor(2, 21, SMALL);
    }

    private static void refusedFor(int policy, int size, int of) {
        SprayedLetters x = three(20, policy);
        x.send(1, 2, 15, 1, 90);
        x.send(0, 2, size, 2, 90);
        check.due("none yet", x.refusal(1), STATE);
        check.due("refused", x.meet(0, 1, 99), 0);
        int[] due = {4, of, 1, 0, 1, 0};
        for (int what = 0; what < 6; what++) {
            check.due("refusal(" + what + ")", x.refusal(what), due[what]);
        }
        x.meet(0, 1, size - 1);
        check.due("narrow ahead of full", x.refusal(0), 3);
        check.due("comes of none", x.refusal(1), NONE);
    }

    /** A COPY that is refused for another REASON makes no ROOM; nor does one that is there. */
    private static void onlyForWhatIsHanded() {
        SprayedLetters x = three(20, 1);
        put(x, 20, 50);
        int l = x.send(0, 2, 10, 2, 50);
        check.due("too narrow", x.meet(0, 1, 9), 0);
        check.due("none goes", which(x, 1, 2), 1);
        x.set(1, 3);
        check.due("it waits", x.meet(0, 1, 99), 0);
        check.due("none goes", which(x, 1, 2), 1);
        check.due("a letter to the taker", x.send(0, 1, 20, 1, 50), 2);
        check.due("is there", x.meet(0, 1, 99), 1);
        check.due("none goes", which(x, 1, 3), 1);
        check.due("dropped", x.rule(11), 0);
        x.set(1, 1);
        check.due("handed", x.meet(1, 0, 10), 1);
        check.due("now it goes", which(x, 1, 2), 10);
        check.due("the letter is in the giver still", x.letter(0, 6) * 10 + x.letter(0, 9), 11);
        check.due("letter", x.letter(l, 9), 2);
    }
}
