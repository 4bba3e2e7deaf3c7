import java.util.Random;

/**
 * "No call may ever throw or fail to end, for any arguments in any state" (rule 7 of the language): calls of every
 * kind with numbers of every kind; also behind the 512th, where no answer is promised, but that there is one.
 */
final class NeverThrowsTest {
    private static final int RUNS = 40;
    private static final int CALLS = 20000;
    private static final String[] NAMES = {"feed", "end", "text", "fault", "rule", "node", "meeting", "letter", "copy", "note",
        "last", "soonest", "why", "refusal", "tick", "meet", "send", "set", "draw", "keep", "back"};
    private static final int[] WILD = {Integer.MIN_VALUE, Integer.MIN_VALUE + 1, -65536, -256, -100, -5, -1, 100, 127, 128,
        255, 256, 300, 301, 65536, 1 << 30, Integer.MAX_VALUE - 1, Integer.MAX_VALUE};
    private static final Check check = new Check();

    public static void main(String[] args) {
        for (int run = 0; run < RUNS; run++) {
            go(new Random(run));
        }
        check.finish();
    }

    private static void go(Random random) {
        SprayedLetters x = new SprayedLetters();
        for (int i = 0; i < CALLS; i++) {
            Row row = row(random);
            try {
                if (random.nextInt(400) == 0) {
                    x.end(0);
                    Check.text(x, text(random));
                }
                row.of(x);
            } catch (RuntimeException e) {
                check.due(row + ", or a text ahead of it, threw " + e, false);
                return;
            }
        }
        check.due("nothing was thrown", true);
    }

    private static Row row(Random random) {
        String name = NAMES[random.nextInt(NAMES.length)];
        // A tape of such bytes is hardly ever a text that is taken, and an empty one leaves no nodes.
        if (name.equals("text")) {
            return new Row(random.nextInt(200) == 0 ? "text" : "fault");
        }
        int[] numbers = new int[5];
        int most = random.nextBoolean() ? 8 : 20;
        for (int i = 0; i < numbers.length; i++) {
            numbers[i] = random.nextInt(30) == 0 ? WILD[random.nextInt(WILD.length)] : random.nextInt(most);
        }
        return new Row(name, numbers);
    }

    private static String text(Random random) {
        int nodes = 2 + random.nextInt(7);
        StringBuilder t = new StringBuilder();
        for (int n = 0; n < nodes; n++) {
            t.append("node ").append(random.nextInt(100)).append(';');
        }
        for (int i = 0; i < 9; i++) {
            int a = random.nextInt(nodes);
            int b = (a + 1 + random.nextInt(nodes - 1)) % nodes;
            t.append(random.nextBoolean() ? "meet9 " + a + " " + b + " 50;" : "letter5 " + a + " " + b + " 9 9 9;");
        }
        return t.toString();
    }
}
