import java.util.ArrayList;
import java.util.List;
import java.util.Random;

/**
 * Random runs (of fixed seeds) on the program and on the model: every answer is the same. No object gets more
 * than the 512 calls that it is promised for: among what happens, some questions are asked; at the end of a
 * run all questions are, of objects that go through it anew.
 */
final class ModelTest {
    private static final int RUNS = 2500;
    private static final int SHORT_TEXTS = 40000;
    private static final int CALLS = 512;
    /** What happens takes some so many calls, so that some are left for questions. */
    private static final int CALLS_THAT_CHANGE = 400;
    private static final int[] EDGES = {-1, 0, 1, 2, 7, 8, 9, 15, 16, 20, 21, 50, 51, 64, 65, 99, 100,
        Integer.MIN_VALUE, Integer.MAX_VALUE};
    private static final List<Row> QUESTIONS = questions();
    private static final Check check = new Check();

    private final Random random;
    private final SprayedLetters x = new SprayedLetters();
    private final Model y = new Model();
    /** All rows that x got, and those of them that may have changed it. */
    private final List<Row> rows = new ArrayList<>();
    private final List<Row> changes = new ArrayList<>();

    private ModelTest(int seed) {
        random = new Random(seed);
    }

    public static void main(String[] args) {
        for (int run = 0; run < RUNS && check.wrong() == 0; run++) {
            ModelTest t = new ModelTest(run);
            t.run();
            if (check.wrong() != 0) {
                System.out.println("run " + run + ": " + t.rows);
            }
        }
        for (int text = 0; text < SHORT_TEXTS && check.wrong() == 0; text++) {
            ModelTest t = new ModelTest(-1 - text);
            t.tell(t.shortText());
            for (int what = 0; what < 3; what++) {
                t.ask(new Row("rule", what));
            }
            if (check.wrong() != 0) {
                System.out.println("short text " + text + ": " + t.rows);
            }
        }
        check.finish();
    }

    private void run() {
        // Short texts leave calls for what happens; long ones come near to what there may be.
        tell(goodText(random.nextBoolean() ? 120 : 250));
        while (changes.size() < CALLS_THAT_CHANGE && rows.size() < CALLS && check.wrong() == 0) {
            int kind = below(100);
            if (kind < 4) {
                tellAgain(goodText(below(4) == 0 ? 250 : 60), kind != 0);
            } else {
                happen(kind);
            }
            int questions = below(6);
            for (int i = 0; i < questions; i++) {
                ask(QUESTIONS.get(below(QUESTIONS.size())));
            }
        }
        askAll();
    }

    /** A text that would take too many calls is not told. */
    private void tellAgain(String text, boolean isSpoilt) {
        if (changes.size() + text.length() < CALLS_THAT_CHANGE) {
            tell(isSpoilt ? spoilt(text) : text);
        }
    }

    // ---- calls

    /** An object that has had its calls gets no more, nor does the model. */
    private void change(Row row) {
        if (rows.size() < CALLS) {
            rows.add(row);
            changes.add(row);
            check.due(row.toString(), row.of(x), row.of(y));
        }
    }

    private void ask(Row row) {
        if (rows.size() < CALLS) {
            rows.add(row);
            check.due(row.toString(), row.of(x), row.of(y));
        }
    }

    private void askAll() {
        int next = 0;
        while (next < QUESTIONS.size() && check.wrong() == 0) {
            SprayedLetters z = new SprayedLetters();
            for (Row row : changes) {
                row.of(z);
            }
            for (int calls = changes.size(); calls < CALLS && next < QUESTIONS.size(); calls++) {
                Row row = QUESTIONS.get(next);
                check.due("at the end " + row, row.of(z), row.of(y));
                next++;
            }
        }
    }

    private int below(int n) {
        return random.nextInt(n);
    }

    private int from(int low, int high) {
        return low + random.nextInt(high - low + 1);
    }

    private int edgy(int usual) {
        return below(40) == 0 ? EDGES[below(EDGES.length)] : usual;
    }

    // ---- texts

    private String goodText(int most) {
        int nodes = from(2, 2 + below(7));
        boolean narrow = random.nextBoolean();
        StringBuilder t = new StringBuilder();
        for (int n = 0; n < nodes; n++) {
            t.append("node ").append(from(narrow ? 0 : 20, narrow ? 40 : 99)).append(';');
        }
        int lines = below(24);
        for (int i = 0; i < lines; i++) {
            String line = random.nextBoolean() ? meetLine(nodes) : letterLine(nodes, narrow ? 30 : 20);
            if (t.length() + line.length() > most) {
                break;
            }
            t.append(line);
        }
        return t.toString();
    }

    private String pair(int nodes) {
        int a = below(nodes);
        return a + " " + (a + 1 + below(nodes - 1)) % nodes + " ";
    }

    private String meetLine(int nodes) {
        return "meet" + from(1, 20) + " " + pair(nodes) + from(0, 99) + ";";
    }

    private String letterLine(int nodes, int size) {
        return "letter" + from(1, 12) + " " + pair(nodes) + from(1, size) + " " + from(1, 9) + " " + from(1, 40) + ";";
    }

    /** Some lines, in whose tokens and blanks there is often something wrong. */
    private String shortText() {
        String[] wrong = {"node", "meet", "letter", "nodes", "n", ";", "0", "8", "64", "65", "99", "100", "00", "?", ""};
        int often = 4 + below(30);
        StringBuilder t = new StringBuilder();
        int lines = 1 + below(4);
        for (int i = 0; i < lines; i++) {
            String line = below(3) == 0 ? "node " + below(100) + ";" : below(2) == 0 ? meetLine(3) : letterLine(3, 99);
            for (String token : line.replace(";", " ;").split("(?<=[a-z])(?=[0-9])| ")) {
                t.append(below(often) == 0 ? wrong[below(wrong.length)] : token);
                t.append(below(often) == 0 ? "" : " ".repeat(1 + below(2)));
            }
        }
        return t.toString();
    }

    private String spoilt(String text) {
        StringBuilder t = new StringBuilder(text);
        String signs = " ;0123456789adelmnortz?\t";
        int spots = 1 + below(3);
        for (int i = 0; i < spots && t.length() > 0; i++) {
            int place = below(t.length());
            switch (below(4)) {
                case 0: t.setCharAt(place, signs.charAt(below(signs.length()))); break;
                case 1: t.insert(place, signs.charAt(below(signs.length()))); break;
                case 2: t.deleteCharAt(place); break;
                default: t.setLength(place); break;
            }
        }
        return t.toString();
    }

    private void tell(String text) {
        for (int i = 0; i < text.length(); i++) {
            change(new Row("feed", text.charAt(i)));
        }
        if (below(10) == 0) {
            change(new Row("end", below(text.length() + 2)));
        }
        change(new Row("text"));
        ask(new Row("fault"));
    }

    // ---- what happens

    private void happen(int kind) {
        int nodes = Math.max(1, y.rule(0));
        int a = edgy(below(nodes));
        int b = edgy(below(nodes));
        if (kind < 6) {
            change(new Row("feed", edgy(from(32, 126))));
        } else if (kind < 8) {
            change(new Row("end", edgy(below(y.rule(17) + 1))));
        } else if (kind < 30) {
            change(new Row("tick", edgy(from(1, 3))));
        } else if (kind < 55) {
            change(new Row("meet", a, b, edgy(from(0, 99))));
        } else if (kind < 70) {
            change(new Row("send", a, b, edgy(from(1, 30)), edgy(from(1, 9)), edgy(from(1, 40))));
        } else if (kind < 80) {
            int what = edgy(below(4));
            change(new Row("set", what, edgy(below(what == 0 ? 12 : 4))));
        } else if (kind < 90) {
            change(new Row("draw", random.nextInt(), edgy(from(1, 3))));
        } else {
            change(new Row(kind < 95 ? "keep" : "back", edgy(below(2))));
        }
    }

    // ---- what there is

    /** Every question with every number that may be taken, and the next on either side. */
    private static List<Row> questions() {
        List<Row> all = new ArrayList<>();
        all.add(new Row("fault"));
        for (int what = -1; what <= 19; what++) {
            all.add(new Row("rule", what));
        }
        for (int what = -1; what <= 6; what++) {
            all.add(new Row("refusal", what));
        }
        for (int n = -1; n <= 8; n++) {
            askNode(all, n);
        }
        for (int m = -1; m <= 24; m++) {
            for (int what = -1; what <= 5; what++) {
                all.add(new Row("meeting", m, what));
            }
        }
        for (int l = -1; l <= 16; l++) {
            all.add(new Row("soonest", l));
            for (int what = -1; what <= 11; what++) {
                all.add(new Row("letter", l, what));
            }
        }
        return all;
    }

    private static void askNode(List<Row> all, int n) {
        for (int what = -1; what <= 5; what++) {
            all.add(new Row("node", n, what));
        }
        for (int h = -1; h <= 8; h++) {
            all.add(new Row("last", n, h));
        }
        for (int i = -1; i <= 16; i++) {
            all.add(new Row("note", n, i));
            for (int what = -1; what <= 4; what++) {
                all.add(new Row("copy", n, i, what));
            }
            for (int h = -1; h <= 8; h++) {
                all.add(new Row("why", n, h, i, Math.floorMod(31 * n + 17 * h + 7 * i, 100)));
                all.add(new Row("why", n, h, i, 99));
            }
        }
        all.add(new Row("why", n, (n + 1) % 8, 0, -1));
        all.add(new Row("why", n, (n + 1) % 8, 0, 100));
    }
}
