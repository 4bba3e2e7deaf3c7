import java.util.ArrayList;
import java.util.Comparator;
import java.util.List;
import java.util.TreeMap;
import java.util.TreeSet;
import java.util.regex.Matcher;
import java.util.regex.Pattern;

/** The document once more, as plainly as may be, by means that the program has not: lists, maps, sets. */
final class Model {
    static final int BAD = -1, STATE = -2, FULL = -3, NONE = -4;

    record Meeting(int time, int first, int other, int width) { }

    record Letter(int birth, int from, int to, int size, int tokens, int life) {
        int end() {
            return birth + life;
        }
    }

    record Copy(int letter, int tokens, int hops, int since) { }

    record Refusal(int reason, int of, int letter, int giver, int taker, int clock) { }

    record Delivery(int clock, int hops) { }

    static final class Fault extends Exception {
        private static final long serialVersionUID = 1;
        final int number;
        final int place;

        Fault(int number, int place) {
            this.number = number;
            this.place = place;
        }
    }

    static final class All {
        List<Integer> rooms = new ArrayList<>();
        List<Meeting> meetings = new ArrayList<>();
        List<Letter> letters = new ArrayList<>();
        List<TreeMap<Integer, Copy>> bags = new ArrayList<>();
        List<TreeSet<Integer>> notes = new ArrayList<>();
        TreeMap<String, Integer> last = new TreeMap<>();
        TreeMap<Integer, Delivery> delivered = new TreeMap<>();
        TreeMap<String, Integer> counts = new TreeMap<>();
        Refusal refusal;
        int clock;
        int round;
        int mode = 1;
        int policy = 1;
        int margin;

        All image() {
            All a = new All();
            a.rooms.addAll(rooms);
            a.meetings.addAll(meetings);
            a.letters.addAll(letters);
            for (TreeMap<Integer, Copy> bag : bags) {
                a.bags.add(new TreeMap<>(bag));
            }
            for (TreeSet<Integer> set : notes) {
                a.notes.add(new TreeSet<>(set));
            }
            a.last.putAll(last);
            a.delivered.putAll(delivered);
            a.counts.putAll(counts);
            a.refusal = refusal;
            a.clock = clock;
            a.round = round;
            a.mode = mode;
            a.policy = policy;
            a.margin = margin;
            return a;
        }
    }

    private StringBuilder tape = new StringBuilder();
    private int fault;
    private All s = new All();
    private final TreeMap<Integer, All> images = new TreeMap<>();

    // ---- the text

    int feed(int c) {
        if (c < 0 || c > 127) {
            return BAD;
        }
        if (tape.length() == 300) {
            return FULL;
        }
        tape.append((char) c);
        return tape.length();
    }

    int end(int n) {
        int had = tape.length();
        if (n < 0 || n > had) {
            return BAD;
        }
        tape.setLength(n);
        return had;
    }

    int text() {
        String bytes = tape.toString();
        tape = new StringBuilder();
        try {
            All told = new All();
            int lines = read(bytes, told);
            told.round = s.round;
            told.mode = s.mode;
            told.policy = s.policy;
            told.margin = s.margin;
            for (int n = 0; n < told.rooms.size(); n++) {
                told.bags.add(new TreeMap<>());
                told.notes.add(new TreeSet<>());
            }
            s = told;
            images.clear();
            fault = 0;
            return lines;
        } catch (Fault f) {
            fault = f.number;
            return -10 - f.place;
        }
    }

    private static final Pattern TOKEN = Pattern.compile("[a-z]+|[0-9]+|;");

    private static int skip(String bytes, int place) {
        int p = place;
        while (p < bytes.length() && bytes.charAt(p) == ' ') {
            p++;
        }
        return p;
    }

    /** The token at a place that is no blank; empty at the end. */
    private static String token(String bytes, int place) throws Fault {
        if (place == bytes.length()) {
            return "";
        }
        Matcher m = TOKEN.matcher(bytes).region(place, bytes.length());
        if (!m.lookingAt() || m.group().matches("[0-9]{3,}")) {
            throw new Fault(1, place);
        }
        return m.group();
    }

    private static int read(String bytes, All told) throws Fault {
        int lines = 0;
        int p = skip(bytes, 0);
        while (p < bytes.length()) {
            String name = token(bytes, p);
            int numbers;
            boolean full;
            switch (name) {
                case "node" -> { numbers = 1; full = told.rooms.size() == 8; }
                case "meet" -> { numbers = 4; full = told.meetings.size() == 24; }
                case "letter" -> { numbers = 6; full = told.letters.size() == 16; }
                default -> throw new Fault(2, p);
            }
            if (full) {
                throw new Fault(4, p);
            }
            p = skip(bytes, p + name.length());
            List<Integer> got = new ArrayList<>();
            for (int i = 0; i < numbers; i++) {
                String t = token(bytes, p);
                if (t.isEmpty() || !Character.isDigit(t.charAt(0))) {
                    throw new Fault(2, p);
                }
                int v = Integer.parseInt(t);
                if (!isWithin(name, i, v)) {
                    throw new Fault(3, p);
                }
                if (i == 2 && v == got.get(1)) {
                    throw new Fault(5, p);
                }
                got.add(v);
                p = skip(bytes, p + t.length());
            }
            if (!token(bytes, p).equals(";")) {
                throw new Fault(2, p);
            }
            p = skip(bytes, p + 1);
            lines++;
            switch (name) {
                case "node" -> told.rooms.add(got.get(0));
                case "meet" -> told.meetings.add(new Meeting(got.get(0), got.get(1), got.get(2), got.get(3)));
                default -> told.letters.add(new Letter(got.get(0), got.get(1), got.get(2), got.get(3), got.get(4), got.get(5)));
            }
        }
        int nodes = told.rooms.size();
        for (Meeting m : told.meetings) {
            if (Math.max(m.first, m.other) >= nodes) {
                throw new Fault(6, bytes.length());
            }
        }
        for (Letter l : told.letters) {
            if (Math.max(l.from, l.to) >= nodes) {
                throw new Fault(6, bytes.length());
            }
        }
        return lines;
    }

    private static boolean isWithin(String name, int i, int v) {
        if (name.equals("node")) {
            return true;
        }
        if (i == 0) {
            return v >= 1;
        }
        if (i == 1 || i == 2) {
            return v <= 7;
        }
        if (name.equals("meet")) {
            return true;
        }
        return v >= 1 && (i != 4 || v <= 64);
    }

    int fault() {
        return fault;
    }

    // ---- what there is

    private int count(String what) {
        return s.counts.getOrDefault(what, 0);
    }

    private void add(String what, int n) {
        s.counts.merge(what, n, Integer::sum);
    }

    int rule(int what) {
        return switch (what) {
            case 0 -> s.rooms.size();
            case 1 -> s.meetings.size();
            case 2 -> s.letters.size();
            case 3 -> s.clock;
            case 4 -> s.round;
            case 5 -> s.mode;
            case 6 -> s.policy;
            case 7 -> s.margin;
            case 8 -> s.bags.stream().mapToInt(TreeMap::size).sum();
            case 9 -> count("handed");
            case 10 -> s.delivered.size();
            case 11 -> count("dropped");
            case 12 -> count("cured");
            case 13 -> count("expired");
            case 14 -> count("lost");
            case 15 -> count("meetings");
            case 16 -> s.delivered.entrySet().stream()
                    .mapToInt(e -> e.getValue().clock - s.letters.get(e.getKey()).birth).sum();
            case 17 -> tape.length();
            case 18 -> images.size();
            default -> BAD;
        };
    }

    private boolean noNode(int n) {
        return n < 0 || n >= s.rooms.size();
    }

    private boolean noPair(int a, int b) {
        return noNode(a) || noNode(b) || a == b;
    }

    private boolean noLetter(int l) {
        return l < 0 || l >= s.letters.size();
    }

    private int load(int n) {
        return s.bags.get(n).keySet().stream().mapToInt(l -> s.letters.get(l).size).sum();
    }

    int node(int n, int what) {
        if (noNode(n)) {
            return BAD;
        }
        return switch (what) {
            case 0 -> s.rooms.get(n);
            case 1 -> load(n);
            case 2 -> s.bags.get(n).size();
            case 3 -> s.notes.get(n).size();
            case 4 -> (int) s.last.keySet().stream().filter(pair -> pair.contains("" + n)).count();
            default -> BAD;
        };
    }

    private boolean isAt(Meeting m, int minute) {
        int t = m.time;
        while (s.round > 0 && t < minute) {
            t += s.round;
        }
        return t == minute;
    }

    int meeting(int m, int what) {
        if (m < 0 || m >= s.meetings.size()) {
            return BAD;
        }
        Meeting x = s.meetings.get(m);
        return switch (what) {
            case 0 -> x.time;
            case 1 -> x.first;
            case 2 -> x.other;
            case 3 -> x.width;
            case 4 -> {
                for (int t = s.clock + 1; t <= s.clock + 200; t++) {
                    if (isAt(x, t)) {
                        yield t;
                    }
                }
                yield NONE;
            }
            default -> BAD;
        };
    }

    int letter(int l, int what) {
        if (noLetter(l)) {
            return BAD;
        }
        Letter x = s.letters.get(l);
        Delivery d = s.delivered.get(l);
        List<Copy> copies = new ArrayList<>();
        for (TreeMap<Integer, Copy> bag : s.bags) {
            if (bag.containsKey(l)) {
                copies.add(bag.get(l));
            }
        }
        return switch (what) {
            case 0 -> x.birth;
            case 1 -> x.from;
            case 2 -> x.to;
            case 3 -> x.size;
            case 4 -> x.tokens;
            case 5 -> x.life;
            case 6 -> s.clock < x.birth ? 0 : d != null ? 2 : !copies.isEmpty() ? 1 : 3;
            case 7 -> d == null ? NONE : d.clock;
            case 8 -> d == null ? NONE : d.hops;
            case 9 -> copies.size();
            case 10 -> copies.stream().mapToInt(Copy::tokens).sum();
            default -> BAD;
        };
    }

    private List<Copy> sorted(int n, int taker) {
        List<Copy> list = new ArrayList<>(s.bags.get(n).values());
        list.sort(Comparator.<Copy>comparingInt(c -> s.letters.get(c.letter).to == taker ? 0 : 1)
                .thenComparingInt(Copy::hops).thenComparingInt(Copy::letter));
        return list;
    }

    int copy(int n, int i, int what) {
        if (noNode(n) || i < 0 || what < 0 || what > 3) {
            return BAD;
        }
        List<Copy> list = sorted(n, -1);
        if (i >= list.size()) {
            return NONE;
        }
        Copy c = list.get(i);
        return new int[] {c.letter, c.tokens, c.hops, c.since}[what];
    }

    int note(int n, int l) {
        return noNode(n) || noLetter(l) ? BAD : s.notes.get(n).contains(l) ? 1 : 0;
    }

    private static String pair(int a, int b) {
        return Math.min(a, b) + "-" + Math.max(a, b);
    }

    int last(int a, int b) {
        return noPair(a, b) ? BAD : s.last.getOrDefault(pair(a, b), NONE);
    }

    int soonest(int l) {
        if (noLetter(l)) {
            return BAD;
        }
        Letter x = s.letters.get(l);
        TreeSet<Integer> have = new TreeSet<>(List.of(x.from));
        for (int t = x.birth; t < x.end(); t++) {
            for (Meeting m : s.meetings) {
                if (isAt(m, t) && (have.contains(m.first) || have.contains(m.other))) {
                    have.addAll(List.of(m.first, m.other));
                }
            }
            if (have.contains(x.to)) {
                return t;
            }
        }
        return NONE;
    }

    /** The copies that go so that a letter fits, or, with -5, -6, -7 alone, why it can not. */
    private List<Integer> plan(int n, int l) {
        Letter x = s.letters.get(l);
        int room = s.rooms.get(n);
        if (load(n) + x.size <= room) {
            return List.of();
        }
        if (x.size > room) {
            return List.of(-5);
        }
        if (s.policy == 0) {
            return List.of(-6);
        }
        List<Copy> may = new ArrayList<>();
        for (Copy c : s.bags.get(n).values()) {
            if (s.letters.get(c.letter).from != n) {
                may.add(c);
            }
        }
        may.sort(Comparator.<Copy>comparingInt(c -> switch (s.policy) {
            case 1 -> c.since;
            case 2 -> -s.letters.get(c.letter).size;
            default -> s.letters.get(c.letter).end();
        }).thenComparingInt(Copy::letter));
        List<Integer> go = new ArrayList<>();
        int load = load(n);
        for (Copy c : may) {
            go.add(c.letter);
            load -= s.letters.get(c.letter).size;
            if (load + x.size <= room) {
                return go;
            }
        }
        return List.of(-7);
    }

    private static int lack(List<Integer> plan) {
        return plan.size() == 1 && plan.get(0) < 0 ? -plan.get(0) : 0;
    }

    private void drop(int n, List<Integer> plan) {
        for (int l : plan) {
            s.bags.get(n).remove(l);
            add("dropped", 1);
        }
    }

    private int reason(int g, int h, int l, int left) {
        Letter x = s.letters.get(l);
        if (s.bags.get(h).containsKey(l)) {
            return 1;
        }
        if (x.to != h) {
            boolean one = s.bags.get(g).get(l).tokens == 1;
            Integer taker = s.last.get(pair(h, x.to));
            int giver = s.last.getOrDefault(pair(g, x.to), -1);
            boolean later = taker != null && taker > giver + s.margin;
            if (s.mode == 1 && one || s.mode == 2 && one && !later || s.mode == 3) {
                return 2;
            }
        }
        if (x.size > left) {
            return 3;
        }
        return x.to == h ? 0 : lack(plan(h, l));
    }

    int why(int g, int h, int l, int w) {
        if (noPair(g, h) || noLetter(l) || w < 0 || w > 99 || !s.bags.get(g).containsKey(l)) {
            return BAD;
        }
        return reason(g, h, l, w);
    }

    int refusal(int what) {
        if (what < 0 || what > 5) {
            return BAD;
        }
        Refusal r = s.refusal;
        return r == null ? STATE : new int[] {r.reason, r.of, r.letter, r.giver, r.taker, r.clock}[what];
    }

    // ---- what happens

    private void born(int l) {
        Letter x = s.letters.get(l);
        List<Integer> plan = plan(x.from, l);
        if (lack(plan) != 0) {
            add("lost", 1);
        } else {
            drop(x.from, plan);
            s.bags.get(x.from).put(l, new Copy(l, x.tokens, 0, s.clock));
        }
    }

    private int minute() {
        s.clock++;
        for (TreeMap<Integer, Copy> bag : s.bags) {
            int before = bag.size();
            bag.keySet().removeIf(l -> s.letters.get(l).end() == s.clock);
            add("expired", before - bag.size());
        }
        for (int l = 0; l < s.letters.size(); l++) {
            if (s.letters.get(l).birth == s.clock) {
                born(l);
            }
        }
        int handed = 0;
        for (Meeting m : s.meetings) {
            if (isAt(m, s.clock)) {
                handed += hold(m);
            }
        }
        return handed;
    }

    private int hold(Meeting m) {
        add("meetings", 1);
        int[] both = {m.first, m.other};
        s.notes.get(m.first).addAll(s.notes.get(m.other));
        s.notes.get(m.other).addAll(s.notes.get(m.first));
        for (int n : both) {
            int before = s.bags.get(n).size();
            s.bags.get(n).keySet().removeAll(s.notes.get(n));
            add("cured", before - s.bags.get(n).size());
        }
        int left = m.width;
        int handed = 0;
        Refusal first = null;
        for (int side = 0; side < 2; side++) {
            int g = both[side];
            int h = both[1 - side];
            for (Copy c : sorted(g, h)) {
                int r = reason(g, h, c.letter, left);
                if (r == 0) {
                    handed++;
                    left -= s.letters.get(c.letter).size;
                    hand(g, h, c);
                } else if (first == null) {
                    first = new Refusal(Math.min(r, 4), r > 4 ? r : NONE, c.letter, g, h, s.clock);
                }
            }
        }
        if (first != null) {
            s.refusal = first;
        }
        s.last.put(pair(m.first, m.other), s.clock);
        add("handed", handed);
        return handed;
    }

    private void hand(int g, int h, Copy c) {
        if (s.letters.get(c.letter).to == h) {
            s.delivered.putIfAbsent(c.letter, new Delivery(s.clock, c.hops + 1));
            s.bags.get(g).remove(c.letter);
            s.notes.get(g).add(c.letter);
            s.notes.get(h).add(c.letter);
            return;
        }
        drop(h, plan(h, c.letter));
        int gives = Math.max(1, c.tokens / 2);
        s.bags.get(h).put(c.letter, new Copy(c.letter, gives, c.hops + 1, s.clock));
        if (c.tokens > 1) {
            s.bags.get(g).put(c.letter, new Copy(c.letter, c.tokens - gives, c.hops, c.since));
        } else if (s.mode == 2) {
            s.bags.get(g).remove(c.letter);
        }
    }

    int tick(int n) {
        if (n < 1 || n > 50) {
            return BAD;
        }
        int handed = 0;
        for (int i = 0; i < n; i++) {
            handed += minute();
        }
        return handed;
    }

    int meet(int a, int b, int w) {
        return noPair(a, b) || w < 0 || w > 99 ? BAD : hold(new Meeting(0, a, b, w));
    }

    int send(int a, int b, int size, int tokens, int life) {
        if (noPair(a, b) || size < 1 || size > 99 || tokens < 1 || tokens > 64 || life < 1 || life > 99) {
            return BAD;
        }
        if (s.letters.size() == 16) {
            return FULL;
        }
        s.letters.add(new Letter(s.clock, a, b, size, tokens, life));
        born(s.letters.size() - 1);
        return s.letters.size() - 1;
    }

    int set(int what, int v) {
        int was = rule(what >= 0 && what <= 3 ? 4 + what : -1);
        if (was == BAD || v < 0 || v > new int[] {99, 3, 3, 9}[what]) {
            return BAD;
        }
        switch (what) {
            case 0 -> s.round = v;
            case 1 -> s.mode = v;
            case 2 -> s.policy = v;
            default -> s.margin = v;
        }
        return was;
    }

    private long seed;

    private int got(int modulo) {
        seed = seed * 1103515245L + 12345L & 0xFFFFFFFFL;
        return (int) (seed >> 16 & 0x7FFF) % modulo;
    }

    int draw(int start, int n) {
        if (n < 1 || n > 20) {
            return BAD;
        }
        int nodes = s.rooms.size();
        if (nodes < 2) {
            return STATE;
        }
        seed = start;
        int handed = 0;
        for (int i = 0; i < n; i++) {
            handed += minute();
            int first = got(nodes);
            List<Integer> others = new ArrayList<>();
            for (int k = 1; k < nodes; k++) {
                others.add((first + k) % nodes);
            }
            int other = others.get(got(nodes - 1));
            handed += hold(new Meeting(0, first, other, got(100)));
        }
        return handed;
    }

    // ---- images

    int keep(int k) {
        return k < 0 || k > 1 ? BAD : images.put(k, s.image()) == null ? 0 : 1;
    }

    int back(int k) {
        if (k < 0 || k > 1) {
            return BAD;
        }
        if (!images.containsKey(k)) {
            return STATE;
        }
        s = images.get(k).image();
        return s.clock;
    }
}
