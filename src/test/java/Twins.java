import java.util.ArrayList;
import java.util.List;

/**
 * "What is refused changes nothing": an object that was refused a call, and its twin that was not, answer
 * every question alike, at once and by what is done with them later.
 */
final class Twins {
    /** A call, or some, on an object. */
    interface Calls {
        void on(SprayedLetters x);
    }

    /** One call on an object, with its answer. */
    interface Asked {
        int of(SprayedLetters x);
    }

    /** So few that with the calls ahead of them an object stays within the 512 calls that it is promised for. */
    private static final int QUESTIONS_AN_OBJECT = 150;
    private static final Calls NOTHING = x -> { };
    private static final List<Calls> FUTURES = List.of(NOTHING, SprayedLetters::text, x -> x.back(0), x -> x.back(1),
            x -> x.tick(9), x -> x.draw(77, 9), x -> {
                x.feed(';');
                x.text();
            });

    private final Check check;

    Twins(Check check) {
        this.check = check;
    }

    void refused(String name, Calls made, Asked call, int answer) {
        SprayedLetters x = new SprayedLetters();
        made.on(x);
        check.due(name, call.of(x), answer);
        alike(name, made, y -> {
            made.on(y);
            call.of(y);
        }, true);
    }

    /** Two ways to make an object come to the same; the fault is left out where it may differ. */
    void alike(String name, Calls one, Calls other, boolean withFault) {
        for (int i = 0; i < FUTURES.size(); i++) {
            Calls later = FUTURES.get(i);
            List<Integer> want = answers(one, later, withFault || i == 1 || i == 6);
            List<Integer> got = answers(other, later, withFault || i == 1 || i == 6);
            check.due("nothing has changed by " + name + ", future " + i, want.equals(got));
        }
    }

    /** All answers of an object that is made so, but those of THE TAPE, of its FAULT and of IMAGES. */
    static List<Integer> whole(Calls made) {
        List<Integer> all = answers(made, NOTHING, false);
        all.subList(17, 19).clear();
        return all;
    }

    /** All that an object answers, each some questions by an object that is made anew. */
    private static List<Integer> answers(Calls made, Calls later, boolean withFault) {
        List<Asked> questions = questions(withFault);
        List<Integer> all = new ArrayList<>();
        SprayedLetters x = null;
        for (int i = 0; i < questions.size(); i++) {
            if (i % QUESTIONS_AN_OBJECT == 0) {
                x = new SprayedLetters();
                made.on(x);
                later.on(x);
            }
            all.add(questions.get(i).of(x));
        }
        return all;
    }

    static List<Asked> questions(boolean withFault) {
        List<Asked> list = new ArrayList<>();
        if (withFault) {
            list.add(SprayedLetters::fault);
        }
        for (int i = 0; i <= 18; i++) {
            int what = i;
            list.add(x -> x.rule(what));
        }
        for (int i = 0; i <= 5; i++) {
            int what = i;
            list.add(x -> x.refusal(what));
        }
        for (int n = 0; n < 4; n++) {
            askNode(list, n);
        }
        for (int l = 0; l < 6; l++) {
            askLetter(list, l);
        }
        // The last letter that there can be.
        askLetter(list, 15);
        return list;
    }

    private static void askNode(List<Asked> list, int n) {
        for (int i = 0; i < 5; i++) {
            int what = i;
            list.add(x -> x.node(n, what));
            list.add(x -> x.meeting(n, what));
            list.add(x -> x.last(n, what));
        }
        for (int k = 0; k < 6; k++) {
            int i = k;
            list.add(x -> x.note(n, i));
            for (int w = 0; w < 4; w++) {
                int what = w;
                list.add(x -> x.copy(n, i, what));
                list.add(x -> x.why(n, what, i, 10));
                list.add(x -> x.why(n, what, i, 99));
            }
        }
    }

    private static void askLetter(List<Asked> list, int l) {
        list.add(x -> x.soonest(l));
        for (int i = 0; i <= 10; i++) {
            int what = i;
            list.add(x -> x.letter(l, what));
        }
    }

    // ---- objects to be refused something

    /** Copies, notes, a refusal, two images, a tape, rules that are not the first ones. */
    static void busy(SprayedLetters x) {
        Check.text(x, "node 60;node 40;node 50;node 99;letter 1 0 2 10 8 60;letter 2 1 3 12 4 70;"
                + "letter 9 3 0 7 2 30;letter 1 2 0 5 1 9;meet 2 0 1 50;meet 3 1 2 40;meet 8 2 3 20;");
        x.tick(1);
        x.keep(0);
        x.set(0, 6);
        x.tick(3);
        x.set(1, 2);
        x.set(2, 3);
        x.set(3, 1);
        x.keep(1);
        x.send(3, 1, 9, 5, 20);
        x.meet(1, 3, 30);
        x.meet(0, 3, 40);
        x.tick(1);
        Check.feed(x, "node 5");
    }

    /** As many letters as there may be. */
    static void sixteen(SprayedLetters x) {
        Check.text(x, "node 99;node 20;node 99;meet 3 0 1 50;");
        for (int l = 0; l < 16; l++) {
            x.send(l % 3, (l + 1) % 3, 1 + l % 4, 1 + l, 10 + l);
            x.meet(l % 3, (l + 2) % 3, 2);
        }
        x.keep(0);
        x.tick(2);
    }

    /** As many bytes as there may be: two nodes, 24 meetings. */
    static void full(SprayedLetters x) {
        Check.feed(x, "node1;node1;" + "meet1 0 1 1;".repeat(24));
    }

    /** A node, but nobody whom it could meet. */
    static void lonely(SprayedLetters x) {
        Check.text(x, "node 9;");
        x.set(0, 3);
        x.tick(3);
        Check.feed(x, "node ");
    }
}
