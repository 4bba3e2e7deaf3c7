import java.util.Random;

/** Random runs (of fixed seeds) on the program and on the model: every answer is the same. */
final class ModelTest {
    private static final int RUNS = 600;
    private static final int CALLS = 120;
    private static final int[] EDGES = {-1, 0, 1, 2, 7, 8, 9, 15, 16, 20, 21, 50, 51, 64, 65, 99, 100,
        Integer.MIN_VALUE, Integer.MAX_VALUE};
    private static final Check check = new Check();

    private final Random random;
    private final SprayedLetters x = new SprayedLetters();
    private final Model y = new Model();
    private final StringBuilder log = new StringBuilder();

    private ModelTest(int seed) {
        random = new Random(seed);
    }

    public static void main(String[] args) {
        for (int run = 0; run < RUNS && check.wrong() == 0; run++) {
            ModelTest t = new ModelTest(run);
            t.run();
            if (check.wrong() != 0) {
                System.out.println("run " + run + ":\n" + t.log);
            }
        }
        check.finish();
    }

    private void run() {
        tell(goodText());
        for (int i = 0; i < CALLS && check.wrong() == 0; i++) {
            int kind = random.nextInt(100);
            if (kind < 2) {
                tell(goodText());
            } else if (kind < 6) {
                tell(spoilt(goodText()));
            } else {
                happen(kind);
            }
            compareAll();
        }
    }

    private int below(int n) {
        return random.nextInt(n);
    }

    private int from(int low, int high) {
        return low + random.nextInt(high - low + 1);
    }

    private String goodText() {
        int nodes = from(2, 2 + below(7));
        boolean narrow = random.nextBoolean();
        StringBuilder t = new StringBuilder();
        for (int n = 0; n < nodes; n++) {
            t.append("node ").append(from(narrow ? 0 : 20, narrow ? 40 : 99)).append(';');
        }
        int lines = below(20);
        for (int i = 0; i < lines; i++) {
            int a = below(nodes);
            int b = (a + 1 + below(nodes - 1)) % nodes;
            StringBuilder line = new StringBuilder();
            if (random.nextBoolean()) {
                line.append("meet").append(from(1, 20)).append(' ').append(a).append(' ').append(b).append(' ')
                        .append(from(0, 99)).append(';');
            } else {
                line.append("letter").append(from(1, 12)).append(' ').append(a).append(' ').append(b).append(' ')
                        .append(from(1, narrow ? 30 : 20)).append(' ').append(from(1, 9)).append(' ')
                        .append(from(1, 40)).append(';');
            }
            if (t.length() + line.length() > 298) {
                break;
            }
            t.append(line);
        }
        return t.toString();
    }

    private String spoilt(String text) {
        StringBuilder t = new StringBuilder(text);
        String signs = " ;0123456789adelmnortz?\t";
        int changes = 1 + below(3);
        for (int i = 0; i < changes && t.length() > 0; i++) {
            int place = below(t.length());
            switch (below(4)) {
                case 0: t.setCharAt(place, signs.charAt(below(signs.length()))); break;
                case 1: t.insert(place, signs.charAt(below(signs.length()))); break;
                case 2: t.deleteCharAt(place); break;
                default: t.setLength(place); break;
            }
        }
        return t.toString();
    }

    private void tell(String text) {
        for (int i = 0; i < text.length(); i++) {
            check.due("feed", x.feed(text.charAt(i)), y.feed(text.charAt(i)));
        }
        if (below(10) == 0) {
            int n = below(text.length() + 2);
            check.due("end(" + n + ")", x.end(n), y.end(n));
        }
        log.append("text ").append(text).append('\n');
        check.due("text() of '" + text + "'", x.text(), y.text());
    }

    private int edgy(int usual) {
        return below(40) == 0 ? EDGES[below(EDGES.length)] : usual;
    }

    private void due(String call, int got, int want) {
        log.append(call).append(": ").append(want).append('\n');
        check.due(call, got, want);
    }

    private void happen(int kind) {
        int nodes = Math.max(1, y.rule(0));
        int a = edgy(below(nodes));
        int b = edgy(below(nodes));
        if (kind < 30) {
            int n = edgy(from(1, 3));
            due("tick(" + n + ")", x.tick(n), y.tick(n));
        } else if (kind < 55) {
            int w = edgy(from(0, 99));
            due("meet(" + a + ", " + b + ", " + w + ")", x.meet(a, b, w), y.meet(a, b, w));
        } else if (kind < 70) {
            int size = edgy(from(1, 30));
            int tokens = edgy(from(1, 9));
            int life = edgy(from(1, 40));
            due("send(" + a + ", " + b + ", " + size + ", " + tokens + ", " + life + ")",
                    x.send(a, b, size, tokens, life), y.send(a, b, size, tokens, life));
        } else if (kind < 80) {
            int what = edgy(below(4));
            int v = edgy(below(what == 0 ? 12 : 4));
            due("set(" + what + ", " + v + ")", x.set(what, v), y.set(what, v));
        } else if (kind < 90) {
            int seed = random.nextInt();
            int n = edgy(from(1, 3));
            due("draw(" + seed + ", " + n + ")", x.draw(seed, n), y.draw(seed, n));
        } else if (kind < 95) {
            int k = edgy(below(2));
            due("keep(" + k + ")", x.keep(k), y.keep(k));
        } else {
            int k = edgy(below(2));
            due("back(" + k + ")", x.back(k), y.back(k));
        }
    }

    private void compareAll() {
        check.due("fault()", x.fault(), y.fault());
        for (int what = -1; what <= 19; what++) {
            check.due("rule(" + what + ")", x.rule(what), y.rule(what));
        }
        for (int n = -1; n <= 8; n++) {
            compareNode(n);
        }
        for (int m = -1; m <= 24; m++) {
            for (int what = -1; what <= 5; what++) {
                check.due("meeting(" + m + ", " + what + ")", x.meeting(m, what), y.meeting(m, what));
            }
        }
        for (int l = -1; l <= 16; l++) {
            for (int what = -1; what <= 11; what++) {
                check.due("letter(" + l + ", " + what + ")", x.letter(l, what), y.letter(l, what));
            }
            check.due("soonest(" + l + ")", x.soonest(l), y.soonest(l));
        }
        for (int what = -1; what <= 6; what++) {
            check.due("refusal(" + what + ")", x.refusal(what), y.refusal(what));
        }
    }

    private void compareNode(int n) {
        for (int what = -1; what <= 5; what++) {
            check.due("node(" + n + ", " + what + ")", x.node(n, what), y.node(n, what));
        }
        for (int h = -1; h <= 8; h++) {
            check.due("last(" + n + ", " + h + ")", x.last(n, h), y.last(n, h));
        }
        for (int i = -1; i <= 16; i++) {
            check.due("note(" + n + ", " + i + ")", x.note(n, i), y.note(n, i));
            int what = from(-1, 4);
            check.due("copy(" + n + ", " + i + ", " + what + ")", x.copy(n, i, what), y.copy(n, i, what));
            int h = from(-1, 8);
            int w = from(-1, 100);
            check.due("why(" + n + ", " + h + ", " + i + ", " + w + ")", x.why(n, h, i, w), y.why(n, h, i, w));
        }
    }
}
