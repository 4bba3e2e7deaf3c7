/** What the tests share: answers that are due, and texts that are fed. */
final class Check {
    private int wrong;
    private int checked;

    void due(String call, int got, int want) {
        checked++;
        if (got != want) {
            wrong++;
            if (wrong <= 40) {
                System.out.println(call + " answered " + got + ", due is " + want);
            }
        }
    }

    void due(String call, boolean got) {
        due(call, got ? 1 : 0, 1);
    }

    int wrong() {
        return wrong;
    }

    void finish() {
        System.out.println(checked + " checked, " + wrong + " wrong");
        if (wrong != 0) {
            System.exit(1);
        }
    }

    static void feed(SprayedLetters x, String text) {
        for (int i = 0; i < text.length(); i++) {
            x.feed(text.charAt(i));
        }
    }

    static int text(SprayedLetters x, String text) {
        feed(x, text);
        return x.text();
    }

    /** A new object to which a text has been told that has no fault. */
    static SprayedLetters told(String text) {
        SprayedLetters x = new SprayedLetters();
        if (text.length() > 300 || text(x, text) < 0) {
            throw new IllegalStateException("the test's own text has a fault: " + text);
        }
        return x;
    }
}
