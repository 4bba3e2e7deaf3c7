import java.util.StringJoiner;

/** A row of a run: one call with its numbers, to be put to the program and to the model alike. */
record Row(String name, int... numbers) {
    int of(SprayedLetters x) {
        int[] a = numbers;
        return switch (name) {
            case "feed" -> x.feed(a[0]);
            case "end" -> x.end(a[0]);
            case "text" -> x.text();
            case "fault" -> x.fault();
            case "rule" -> x.rule(a[0]);
            case "node" -> x.node(a[0], a[1]);
            case "meeting" -> x.meeting(a[0], a[1]);
            case "letter" -> x.letter(a[0], a[1]);
            case "copy" -> x.copy(a[0], a[1], a[2]);
            case "note" -> x.note(a[0], a[1]);
            case "last" -> x.last(a[0], a[1]);
            case "soonest" -> x.soonest(a[0]);
            case "why" -> x.why(a[0], a[1], a[2], a[3]);
            case "refusal" -> x.refusal(a[0]);
            case "tick" -> x.tick(a[0]);
            case "meet" -> x.meet(a[0], a[1], a[2]);
            case "send" -> x.send(a[0], a[1], a[2], a[3], a[4]);
            case "set" -> x.set(a[0], a[1]);
            case "draw" -> x.draw(a[0], a[1]);
            case "keep" -> x.keep(a[0]);
            case "back" -> x.back(a[0]);
            default -> throw new IllegalStateException("the test's own row is no call: " + name);
        };
    }

    int of(Model y) {
        int[] a = numbers;
        return switch (name) {
            case "feed" -> y.feed(a[0]);
            case "end" -> y.end(a[0]);
            case "text" -> y.text();
            case "fault" -> y.fault();
            case "rule" -> y.rule(a[0]);
            case "node" -> y.node(a[0], a[1]);
            case "meeting" -> y.meeting(a[0], a[1]);
            case "letter" -> y.letter(a[0], a[1]);
            case "copy" -> y.copy(a[0], a[1], a[2]);
            case "note" -> y.note(a[0], a[1]);
            case "last" -> y.last(a[0], a[1]);
            case "soonest" -> y.soonest(a[0]);
            case "why" -> y.why(a[0], a[1], a[2], a[3]);
            case "refusal" -> y.refusal(a[0]);
            case "tick" -> y.tick(a[0]);
            case "meet" -> y.meet(a[0], a[1], a[2]);
            case "send" -> y.send(a[0], a[1], a[2], a[3], a[4]);
            case "set" -> y.set(a[0], a[1]);
            case "draw" -> y.draw(a[0], a[1]);
            case "keep" -> y.keep(a[0]);
            case "back" -> y.back(a[0]);
            default -> throw new IllegalStateException("the test's own row is no call: " + name);
        };
    }

    @Override
    public String toString() {
        StringJoiner all = new StringJoiner(", ", name + "(", ")");
        for (int n : numbers) {
            all.add("" + n);
        }
        return all.toString();
    }
}
