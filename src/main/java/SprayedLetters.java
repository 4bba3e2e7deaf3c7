/**
 * Letters that go by those who meet: copies with tokens that are halved as they are handed on, till
 * one token waits or is handed to who met the receiver later; rooms that are small and give way by a
 * policy, but never one's own; meetings that are narrow; notes of what is over, that cure copies;
 * letters that end with their life; why a copy is not handed on, and what that comes of; the soonest
 * that a letter could be there by all meetings to come; meetings that come round again, by hand, by
 * a seed; all told in a text letter by letter, with its first fault; images.
 */
public final class SprayedLetters {
    public static final int BAD = -1, STATE = -2, FULL = -3, NONE = -4;

    private static final int MOST_NODES = 8;
    private static final int MOST_MEETINGS = 24;
    private static final int MOST_LETTERS = 16;
    private static final int MOST_BYTES = 300;
    private static final int MOST_IMAGES = 2;

    /** The bound of rooms, times, widths, sizes, lives and of the round. */
    private static final int TOP = 99;
    private static final int MOST_TOKENS = 64;
    private static final int MOST_TICKS = 50;
    private static final int MOST_DRAWS = 20;

    private final Tape tape;
    private final Reader reader;
    private final World now;
    private final Post post;
    private final World[] images;
    private final boolean[] kept;

    public SprayedLetters() {
        tape = new Tape();
        reader = new Reader(tape);
        now = new World();
        post = new Post(now);
        images = new World[MOST_IMAGES];
        for (int k = 0; k < MOST_IMAGES; k++) {
            images[k] = new World();
        }
        kept = new boolean[MOST_IMAGES];
    }

    // ---- the text

    public int feed(int c) {
        if (c < 0 || c > 127) {
            return BAD;
        }
        if (tape.length >= MOST_BYTES) {
            return FULL;
        }
        tape.bytes[tape.length] = (byte) c;
        tape.length++;
        return tape.length;
    }

    public int end(int n) {
        if (n < 0 || n > tape.length) {
            return BAD;
        }
        int before = tape.length;
        tape.length = n;
        return before;
    }

    public int text() {
        int lines = reader.readAll();
        tape.length = 0;
        if (reader.fault != 0) {
            return -10 - reader.faultPlace;
        }
        now.plan.copyFrom(reader.plan);
        now.beginAnew();
        for (int k = 0; k < MOST_IMAGES; k++) {
            kept[k] = false;
        }
        return lines;
    }

    public int fault() {
        return reader.fault;
    }

    // ---- what there is

    public int rule(int what) {
        switch (what) {
            case 0: return now.plan.nodes;
            case 1: return now.plan.meetings;
            case 2: return now.plan.letters;
            case 3: return now.clock;
            case 8: return now.copiesInAll();
            case 17: return tape.length;
            case 18: return imagesKept();
            default: break;
        }
        if (what >= 4 && what <= 7) {
            return now.rules[what - 4];
        }
        if (what >= 9 && what <= 16) {
            return now.counts[what - 9];
        }
        return BAD;
    }

    public int node(int n, int what) {
        if (!now.plan.hasNode(n)) {
            return BAD;
        }
        switch (what) {
            case 0: return now.plan.rooms[n];
            case 1: return now.loadOf(n);
            case 2: return now.copiesIn(n);
            case 3: return Integer.bitCount(now.notes[n]);
            case 4: return now.othersMet(n);
            default: return BAD;
        }
    }

    public int meeting(int m, int what) {
        if (m < 0 || m >= now.plan.meetings || what < 0 || what > 4) {
            return BAD;
        }
        if (what == 4) {
            return now.plan.nextTime(m, now.clock, now.rules[World.ROUND]);
        }
        return now.plan.ofMeeting(m, what);
    }

    public int letter(int l, int what) {
        if (!now.plan.hasLetter(l) || what < 0 || what > 10) {
            return BAD;
        }
        switch (what) {
            case 6: return now.stateOf(l);
            case 7: return now.deliveredAt[l];
            case 8: return now.deliveredHops[l];
            case 9: return now.copiesOf(l);
            case 10: return now.tokensOf(l);
            default: return now.plan.ofLetter(l, what);
        }
    }

    public int copy(int n, int i, int what) {
        if (!now.plan.hasNode(n) || i < 0 || what < 0 || what > 3) {
            return BAD;
        }
        int l = post.copyByOrder(n, i);
        if (l < 0) {
            return NONE;
        }
        int at = World.place(n, l);
        switch (what) {
            case 0: return l;
            case 1: return now.tokens[at];
            case 2: return now.hops[at];
            default: return now.since[at];
        }
    }

    public int note(int n, int l) {
        if (!now.plan.hasNode(n) || !now.plan.hasLetter(l)) {
            return BAD;
        }
        return (now.notes[n] >> l) & 1;
    }

    public int last(int a, int b) {
        if (!now.plan.hasPair(a, b)) {
            return BAD;
        }
        int clock = now.lastOf(a, b);
        return clock == World.NEVER ? NONE : clock;
    }

    public int soonest(int l) {
        if (!now.plan.hasLetter(l)) {
            return BAD;
        }
        return post.soonestOf(l);
    }

    public int why(int g, int h, int l, int w) {
        if (!now.plan.hasPair(g, h) || !now.plan.hasLetter(l) || w < 0 || w > TOP) {
            return BAD;
        }
        if (!now.hasCopy(g, l)) {
            return BAD;
        }
        return post.reasonAgainst(g, h, l, w);
    }

    public int refusal(int what) {
        if (what < 0 || what >= World.REFUSAL_ROW) {
            return BAD;
        }
        if (now.refused[World.REASON] == 0) {
            return STATE;
        }
        return now.refused[what];
    }

    // ---- what happens

    public int tick(int n) {
        if (n < 1 || n > MOST_TICKS) {
            return BAD;
        }
        int before = now.counts[World.HANDED];
        for (int i = 0; i < n; i++) {
            post.passMinute();
        }
        return now.counts[World.HANDED] - before;
    }

    public int meet(int a, int b, int w) {
        if (!now.plan.hasPair(a, b) || w < 0 || w > TOP) {
            return BAD;
        }
        int before = now.counts[World.HANDED];
        post.holdMeeting(a, b, w);
        return now.counts[World.HANDED] - before;
    }

    public int send(int a, int b, int size, int tokens, int life) {
        if (!now.plan.hasPair(a, b) || size < 1 || size > TOP) {
            return BAD;
        }
        if (tokens < 1 || tokens > MOST_TOKENS || life < 1 || life > TOP) {
            return BAD;
        }
        if (now.plan.letters >= MOST_LETTERS) {
            return FULL;
        }
        int l = now.plan.letters;
        now.plan.addLetter(now.clock, a, b, size, tokens, life);
        post.bear(l);
        return l;
    }

    public int set(int what, int v) {
        if (what < 0 || what >= World.RULES || v < 0 || v > World.MOST_OF_RULE[what]) {
            return BAD;
        }
        int before = now.rules[what];
        now.rules[what] = v;
        return before;
    }

    public int draw(int seed, int n) {
        if (n < 1 || n > MOST_DRAWS) {
            return BAD;
        }
        int nodes = now.plan.nodes;
        if (nodes < 2) {
            return STATE;
        }
        int before = now.counts[World.HANDED];
        int s = seed;
        for (int i = 0; i < n; i++) {
            post.passMinute();
            s = nextSeed(s);
            int first = bitsGot(s) % nodes;
            s = nextSeed(s);
            int other = (first + 1 + bitsGot(s) % (nodes - 1)) % nodes;
            s = nextSeed(s);
            post.holdMeeting(first, other, bitsGot(s) % 100);
        }
        return now.counts[World.HANDED] - before;
    }

    // ---- images

    public int keep(int k) {
        if (k < 0 || k >= MOST_IMAGES) {
            return BAD;
        }
        int before = kept[k] ? 1 : 0;
        images[k].copyFrom(now);
        kept[k] = true;
        return before;
    }

    public int back(int k) {
        if (k < 0 || k >= MOST_IMAGES) {
            return BAD;
        }
        if (!kept[k]) {
            return STATE;
        }
        now.copyFrom(images[k]);
        return now.clock;
    }

    private int imagesKept() {
        int count = 0;
        for (int k = 0; k < MOST_IMAGES; k++) {
            if (kept[k]) {
                count++;
            }
        }
        return count;
    }

    private static int nextSeed(int seed) {
        return seed * 1103515245 + 12345;
    }

    private static int bitsGot(int seed) {
        return (seed >>> 16) & 0x7FFF;
    }

    /** The bytes that were fed and not told yet. */
    private static final class Tape {
        final byte[] bytes = new byte[MOST_BYTES];
        int length;
    }

    /** What a text tells: who there is, when they meet, which letters there are. */
    private static final class Plan {
        static final int TIME = 0, FIRST = 1, OTHER = 2, WIDTH = 3, MEETING_ROW = 4;
        static final int BIRTH = 0, FROM = 1, TO = 2, SIZE = 3, TOKENS = 4, LIFE = 5, LETTER_ROW = 6;

        final int[] rooms = new int[MOST_NODES];
        final int[] meetingRows = new int[MOST_MEETINGS * MEETING_ROW];
        final int[] letterRows = new int[MOST_LETTERS * LETTER_ROW];
        int nodes;
        int meetings;
        int letters;

        void clear() {
            nodes = 0;
            meetings = 0;
            letters = 0;
        }

        void copyFrom(Plan other) {
            System.arraycopy(other.rooms, 0, rooms, 0, rooms.length);
            System.arraycopy(other.meetingRows, 0, meetingRows, 0, meetingRows.length);
            System.arraycopy(other.letterRows, 0, letterRows, 0, letterRows.length);
            nodes = other.nodes;
            meetings = other.meetings;
            letters = other.letters;
        }

        boolean hasNode(int n) {
            return n >= 0 && n < nodes;
        }

        boolean hasPair(int a, int b) {
            return hasNode(a) && hasNode(b) && a != b;
        }

        boolean hasLetter(int l) {
            return l >= 0 && l < letters;
        }

        int ofMeeting(int m, int what) {
            return meetingRows[m * MEETING_ROW + what];
        }

        int ofLetter(int l, int what) {
            return letterRows[l * LETTER_ROW + what];
        }

        /** The minute in which the copies of a letter go. */
        int endOf(int l) {
            return letterRows[l * LETTER_ROW + BIRTH] + letterRows[l * LETTER_ROW + LIFE];
        }

        void addNode(int room) {
            if (nodes < MOST_NODES) {
                rooms[nodes] = room;
                nodes++;
            }
        }

        void addMeeting(int time, int first, int other, int width) {
            if (meetings < MOST_MEETINGS) {
                int row = meetings * MEETING_ROW;
                meetingRows[row + TIME] = time;
                meetingRows[row + FIRST] = first;
                meetingRows[row + OTHER] = other;
                meetingRows[row + WIDTH] = width;
                meetings++;
            }
        }

        void addLetter(int birth, int from, int to, int size, int tokens, int life) {
            if (letters < MOST_LETTERS) {
                int row = letters * LETTER_ROW;
                letterRows[row + BIRTH] = birth;
                letterRows[row + FROM] = from;
                letterRows[row + TO] = to;
                letterRows[row + SIZE] = size;
                letterRows[row + TOKENS] = tokens;
                letterRows[row + LIFE] = life;
                letters++;
            }
        }

        /** Whether all nodes that meetings and letters name are there. */
        boolean namesOnlyItsNodes() {
            for (int m = 0; m < meetings; m++) {
                if (ofMeeting(m, FIRST) >= nodes || ofMeeting(m, OTHER) >= nodes) {
                    return false;
                }
            }
            for (int l = 0; l < letters; l++) {
                if (ofLetter(l, FROM) >= nodes || ofLetter(l, TO) >= nodes) {
                    return false;
                }
            }
            return true;
        }

        boolean isAt(int m, int minute, int round) {
            int since = minute - ofMeeting(m, TIME);
            if (since == 0) {
                return true;
            }
            return round > 0 && since > 0 && since % round == 0;
        }

        int nextTime(int m, int clock, int round) {
            int time = ofMeeting(m, TIME);
            if (time > clock) {
                return time;
            }
            if (round <= 0) {
                return NONE;
            }
            return time + ((clock - time) / round + 1) * round;
        }
    }

    /** Reads the tape, token by token, into a plan of its own, up to the first fault. */
    private static final class Reader {
        private static final int AT_END = 0, NAME = 1, NUMBER = 2, SIGN = 3, WRONG = 4;
        private static final int BY_TOKEN = 1, BY_GRAMMAR = 2, BY_BOUNDS = 3, BY_COUNT = 4, BY_PAIR = 5, BY_NODE = 6;
        private static final int NODE_LINE = 0, MEET_LINE = 1, LETTER_LINE = 2, NO_LINE = -1;

        private static final int MOST_NUMBERS = 6;
        private static final int MOST_FIGURES = 2;
        /** In a line of a meeting and of a letter alike, the numbers that are nodes. */
        private static final int ONE_NODE = 1, OTHER_NODE = 2;
        private static final int[] NODE_LEAST = {0};
        private static final int[] NODE_MOST = {99};
        private static final int[] MEET_LEAST = {1, 0, 0, 0};
        private static final int[] MEET_MOST = {99, 7, 7, 99};
        private static final int[] LETTER_LEAST = {1, 0, 0, 1, 1, 1};
        private static final int[] LETTER_MOST = {99, 7, 7, 99, 64, 99};

        final Plan plan = new Plan();
        int fault;
        int faultPlace;

        private final Tape tape;
        private final int[] numbers = new int[MOST_NUMBERS];
        private int next;
        private int kind;
        private int start;

        Reader(Tape tape) {
            this.tape = tape;
        }

        /** How many lines there are; what it answers by a fault is not to be used. */
        int readAll() {
            plan.clear();
            next = 0;
            fault = 0;
            faultPlace = 0;
            int lines = 0;
            // A line takes bytes, so there are fewer lines than bytes.
            for (int i = 0; i <= MOST_BYTES; i++) {
                readToken();
                if (fault != 0 || kind == AT_END) {
                    break;
                }
                readLine();
                if (fault != 0) {
                    break;
                }
                lines++;
            }
            if (fault == 0 && !plan.namesOnlyItsNodes()) {
                refuse(BY_NODE, tape.length);
            }
            return lines;
        }

        /** The token that begins the line has been read. */
        private void readLine() {
            int line = lineBegun();
            if (line == NO_LINE) {
                refuse(BY_GRAMMAR, start);
                return;
            }
            if (isFull(line)) {
                refuse(BY_COUNT, start);
                return;
            }
            readNumbers(line);
            if (fault != 0) {
                return;
            }
            readToken();
            if (fault != 0) {
                return;
            }
            if (kind != SIGN) {
                refuse(BY_GRAMMAR, start);
                return;
            }
            takeLine(line);
        }

        private int lineBegun() {
            if (kind != NAME) {
                return NO_LINE;
            }
            if (isWord("node")) {
                return NODE_LINE;
            }
            if (isWord("meet")) {
                return MEET_LINE;
            }
            return isWord("letter") ? LETTER_LINE : NO_LINE;
        }

        private boolean isFull(int line) {
            switch (line) {
                case NODE_LINE: return plan.nodes >= MOST_NODES;
                case MEET_LINE: return plan.meetings >= MOST_MEETINGS;
                default: return plan.letters >= MOST_LETTERS;
            }
        }

        private void readNumbers(int line) {
            switch (line) {
                case NODE_LINE: readNumbersWithin(NODE_LEAST, NODE_MOST); break;
                case MEET_LINE: readNumbersWithin(MEET_LEAST, MEET_MOST); break;
                default: readNumbersWithin(LETTER_LEAST, LETTER_MOST); break;
            }
        }

        private void readNumbersWithin(int[] least, int[] most) {
            for (int i = 0; i < least.length && i < most.length && i < MOST_NUMBERS; i++) {
                readToken();
                if (fault != 0) {
                    return;
                }
                if (kind != NUMBER) {
                    refuse(BY_GRAMMAR, start);
                    return;
                }
                int value = numberRead();
                if (value < least[i] || value > most[i]) {
                    refuse(BY_BOUNDS, start);
                    return;
                }
                if (i == OTHER_NODE && value == numbers[ONE_NODE]) {
                    refuse(BY_PAIR, start);
                    return;
                }
                numbers[i] = value;
            }
        }

        private void takeLine(int line) {
            int[] n = numbers;
            switch (line) {
                case NODE_LINE: plan.addNode(n[0]); break;
                case MEET_LINE: plan.addMeeting(n[0], n[1], n[2], n[3]); break;
                default: plan.addLetter(n[0], n[1], n[2], n[3], n[4], n[5]); break;
            }
        }

        private void readToken() {
            while (next < tape.length && byteAt(next) == ' ') {
                next++;
            }
            start = next;
            if (start >= tape.length) {
                kind = AT_END;
                return;
            }
            kind = kindOf(byteAt(start));
            next++;
            if (kind == NAME || kind == NUMBER) {
                while (next < tape.length && kindOf(byteAt(next)) == kind) {
                    next++;
                }
            }
            if (kind == WRONG || (kind == NUMBER && next - start > MOST_FIGURES)) {
                refuse(BY_TOKEN, start);
            }
        }

        private static int kindOf(int c) {
            if (c >= 'a' && c <= 'z') {
                return NAME;
            }
            if (c >= '0' && c <= '9') {
                return NUMBER;
            }
            return c == ';' ? SIGN : WRONG;
        }

        private int byteAt(int place) {
            return place >= 0 && place < MOST_BYTES ? tape.bytes[place] : 0;
        }

        private boolean isWord(String word) {
            if (next - start != word.length()) {
                return false;
            }
            for (int i = 0; i < word.length(); i++) {
                if (byteAt(start + i) != word.charAt(i)) {
                    return false;
                }
            }
            return true;
        }

        private int numberRead() {
            int value = 0;
            for (int i = start; i < next; i++) {
                value = value * 10 + byteAt(i) - '0';
            }
            return value;
        }

        private void refuse(int why, int place) {
            fault = why;
            faultPlace = place;
        }
    }

    /** All that there is but the tape and the images: so an image is one more of these. */
    private static final class World {
        static final int ROUND = 0, MODE = 1, POLICY = 2, MARGIN = 3, RULES = 4;
        static final int[] MOST_OF_RULE = {99, 3, 3, 9};
        static final int HANDED = 0, DELIVERED = 1, DROPPED = 2, CURED = 3, EXPIRED = 4, LOST = 5,
                MEETINGS_HELD = 6, MINUTES_TAKEN = 7, COUNTS = 8;
        static final int REASON = 0, COMES_OF = 1, LETTER = 2, GIVER = 3, TAKER = 4, REFUSED_AT = 5,
                REFUSAL_ROW = 6;
        /** Below every clock, so that having met at all is later. */
        static final int NEVER = -1;

        final Plan plan = new Plan();
        final int[] rules = {0, 1, 1, 0};
        final int[] counts = new int[COUNTS];
        final int[] refused = new int[REFUSAL_ROW];
        /** Of the copy of each letter in each node; no tokens: there is no copy. */
        final int[] tokens = new int[MOST_NODES * MOST_LETTERS];
        final int[] hops = new int[MOST_NODES * MOST_LETTERS];
        final int[] since = new int[MOST_NODES * MOST_LETTERS];
        /** A bit for each letter that a node knows to be over. */
        final int[] notes = new int[MOST_NODES];
        final int[] lasts = new int[MOST_NODES * MOST_NODES];
        final int[] deliveredAt = new int[MOST_LETTERS];
        final int[] deliveredHops = new int[MOST_LETTERS];
        int clock;

        World() {
            beginAnew();
        }

        static int place(int n, int l) {
            return n * MOST_LETTERS + l;
        }

        void beginAnew() {
            clock = 0;
            fill(counts, 0);
            fill(refused, 0);
            fill(tokens, 0);
            fill(notes, 0);
            fill(lasts, NEVER);
            fill(deliveredAt, NONE);
            fill(deliveredHops, NONE);
        }

        private static void fill(int[] row, int value) {
            for (int i = 0; i < row.length; i++) {
                row[i] = value;
            }
        }

        void copyFrom(World other) {
            plan.copyFrom(other.plan);
            take(other.rules, rules);
            take(other.counts, counts);
            take(other.refused, refused);
            take(other.tokens, tokens);
            take(other.hops, hops);
            take(other.since, since);
            take(other.notes, notes);
            take(other.lasts, lasts);
            take(other.deliveredAt, deliveredAt);
            take(other.deliveredHops, deliveredHops);
            clock = other.clock;
        }

        private static void take(int[] from, int[] to) {
            System.arraycopy(from, 0, to, 0, Math.min(from.length, to.length));
        }

        boolean hasCopy(int n, int l) {
            return tokens[n * MOST_LETTERS + l] > 0;
        }

        int copiesIn(int n) {
            int count = 0;
            for (int l = 0; l < plan.letters; l++) {
                if (hasCopy(n, l)) {
                    count++;
                }
            }
            return count;
        }

        int copiesOf(int l) {
            int count = 0;
            for (int n = 0; n < plan.nodes; n++) {
                if (hasCopy(n, l)) {
                    count++;
                }
            }
            return count;
        }

        int copiesInAll() {
            int count = 0;
            for (int n = 0; n < plan.nodes; n++) {
                count += copiesIn(n);
            }
            return count;
        }

        int tokensOf(int l) {
            int sum = 0;
            for (int n = 0; n < plan.nodes; n++) {
                sum += tokens[place(n, l)];
            }
            return sum;
        }

        int loadOf(int n) {
            int sum = 0;
            for (int l = 0; l < plan.letters; l++) {
                if (hasCopy(n, l)) {
                    sum += plan.ofLetter(l, Plan.SIZE);
                }
            }
            return sum;
        }

        /** The load that no policy takes away: of letters that the node has written. */
        int ownLoadOf(int n) {
            int sum = 0;
            for (int l = 0; l < plan.letters; l++) {
                if (hasCopy(n, l) && plan.ofLetter(l, Plan.FROM) == n) {
                    sum += plan.ofLetter(l, Plan.SIZE);
                }
            }
            return sum;
        }

        int lastOf(int a, int b) {
            return lasts[a * MOST_NODES + b];
        }

        void noteMet(int a, int b) {
            lasts[a * MOST_NODES + b] = clock;
            lasts[b * MOST_NODES + a] = clock;
        }

        int othersMet(int n) {
            int count = 0;
            for (int other = 0; other < plan.nodes; other++) {
                if (lastOf(n, other) != NEVER) {
                    count++;
                }
            }
            return count;
        }

        int stateOf(int l) {
            if (plan.ofLetter(l, Plan.BIRTH) > clock) {
                return 0;
            }
            if (deliveredAt[l] != NONE) {
                return 2;
            }
            return copiesOf(l) > 0 ? 1 : 3;
        }

        void putCopy(int n, int l, int copyTokens, int copyHops) {
            int at = place(n, l);
            tokens[at] = copyTokens;
            hops[at] = copyHops;
            since[at] = clock;
        }

        void removeCopy(int n, int l) {
            tokens[place(n, l)] = 0;
        }
    }

    /** What happens in a world: minutes, meetings, and how room is made. */
    private static final class Post {
        private static final int FLOOD = 0, SPRAY = 1, FOCUS = 2;
        private static final int DROPS_NONE = 0, DROPS_OLDEST = 1, DROPS_GREATEST = 2;
        private static final int KNOWN = 1, WAIT = 2, NARROW = 3, NO_ROOM = 4;
        private static final int SMALL = 5, KEPT = 6, OWN = 7;
        private static final int NOBODY = -1;

        private final World world;
        private final Plan plan;
        private final int[] order = new int[MOST_LETTERS];
        private final boolean[] reached = new boolean[MOST_NODES];
        /** Of the meeting that is: what is left of its width, whether a copy was refused. */
        private int left;
        private boolean refusedOne;

        Post(World world) {
            this.world = world;
            this.plan = world.plan;
        }

        void passMinute() {
            world.clock++;
            expire();
            for (int l = 0; l < plan.letters; l++) {
                if (plan.ofLetter(l, Plan.BIRTH) == world.clock) {
                    bear(l);
                }
            }
            for (int m = 0; m < plan.meetings; m++) {
                if (plan.isAt(m, world.clock, world.rules[World.ROUND])) {
                    holdMeeting(plan.ofMeeting(m, Plan.FIRST), plan.ofMeeting(m, Plan.OTHER),
                            plan.ofMeeting(m, Plan.WIDTH));
                }
            }
        }

        private void expire() {
            for (int l = 0; l < plan.letters; l++) {
                if (plan.endOf(l) != world.clock) {
                    continue;
                }
                for (int n = 0; n < plan.nodes; n++) {
                    if (world.hasCopy(n, l)) {
                        world.removeCopy(n, l);
                        world.counts[World.EXPIRED]++;
                    }
                }
            }
        }

        void bear(int l) {
            int from = plan.ofLetter(l, Plan.FROM);
            if (lackOfRoom(from, l) != 0) {
                world.counts[World.LOST]++;
                return;
            }
            makeRoom(from, l);
            world.putCopy(from, l, plan.ofLetter(l, Plan.TOKENS), 0);
        }

        void holdMeeting(int first, int other, int width) {
            world.counts[World.MEETINGS_HELD]++;
            left = width;
            refusedOne = false;
            int known = world.notes[first] | world.notes[other];
            world.notes[first] = known;
            world.notes[other] = known;
            cure(first);
            cure(other);
            handAll(first, other);
            handAll(other, first);
            world.noteMet(first, other);
        }

        private void cure(int n) {
            for (int l = 0; l < plan.letters; l++) {
                if (((world.notes[n] >> l) & 1) != 0 && world.hasCopy(n, l)) {
                    world.removeCopy(n, l);
                    world.counts[World.CURED]++;
                }
            }
        }

        private void handAll(int giver, int taker) {
            int count = listCopies(giver, taker);
            for (int i = 0; i < count; i++) {
                int l = order[i];
                int reason = reasonAgainst(giver, taker, l, left);
                if (reason == 0) {
                    handOver(giver, taker, l);
                } else if (!refusedOne) {
                    refusedOne = true;
                    rememberRefusal(giver, taker, l, reason);
                }
            }
        }

        private void handOver(int giver, int taker, int l) {
            world.counts[World.HANDED]++;
            left -= plan.ofLetter(l, Plan.SIZE);
            if (plan.ofLetter(l, Plan.TO) == taker) {
                deliver(giver, taker, l);
                return;
            }
            makeRoom(taker, l);
            int at = World.place(giver, l);
            int has = world.tokens[at];
            int given = has > 1 ? has / 2 : 1;
            world.putCopy(taker, l, given, world.hops[at] + 1);
            if (has > 1) {
                world.tokens[at] = has - given;
            } else if (world.rules[World.MODE] != FLOOD) {
                world.removeCopy(giver, l);
            }
        }

        private void deliver(int giver, int taker, int l) {
            if (world.deliveredAt[l] == NONE) {
                world.deliveredAt[l] = world.clock;
                world.deliveredHops[l] = world.hops[World.place(giver, l)] + 1;
                world.counts[World.DELIVERED]++;
                world.counts[World.MINUTES_TAKEN] += world.clock - plan.ofLetter(l, Plan.BIRTH);
            }
            world.removeCopy(giver, l);
            world.notes[giver] |= 1 << l;
            world.notes[taker] |= 1 << l;
        }

        private void rememberRefusal(int giver, int taker, int l, int reason) {
            int[] row = world.refused;
            boolean forRoom = reason > NO_ROOM;
            row[World.REASON] = forRoom ? NO_ROOM : reason;
            row[World.COMES_OF] = forRoom ? reason : NONE;
            row[World.LETTER] = l;
            row[World.GIVER] = giver;
            row[World.TAKER] = taker;
            row[World.REFUSED_AT] = world.clock;
        }

        /** The reason, 0 for none; in place of "no room" that of which it comes. */
        int reasonAgainst(int giver, int taker, int l, int widthLeft) {
            if (world.hasCopy(taker, l)) {
                return KNOWN;
            }
            boolean isThere = plan.ofLetter(l, Plan.TO) == taker;
            if (!isThere && mustWait(giver, taker, l)) {
                return WAIT;
            }
            if (plan.ofLetter(l, Plan.SIZE) > widthLeft) {
                return NARROW;
            }
            return isThere ? 0 : lackOfRoom(taker, l);
        }

        private boolean mustWait(int giver, int taker, int l) {
            boolean isLast = world.tokens[World.place(giver, l)] == 1;
            switch (world.rules[World.MODE]) {
                case FLOOD: return false;
                case SPRAY: return isLast;
                case FOCUS: return isLast && !metLater(giver, taker, plan.ofLetter(l, Plan.TO));
                default: return true;
            }
        }

        private boolean metLater(int giver, int taker, int to) {
            int met = world.lastOf(taker, to);
            return met != World.NEVER && met - world.lastOf(giver, to) > world.rules[World.MARGIN];
        }

        /** 0: the letter fits, or can be made to fit; else why it can not. */
        private int lackOfRoom(int n, int l) {
            int room = plan.rooms[n];
            int size = plan.ofLetter(l, Plan.SIZE);
            if (world.loadOf(n) + size <= room) {
                return 0;
            }
            if (size > room) {
                return SMALL;
            }
            if (world.rules[World.POLICY] == DROPS_NONE) {
                return KEPT;
            }
            return world.ownLoadOf(n) + size > room ? OWN : 0;
        }

        /** To be called only where there is no lack of room. */
        private void makeRoom(int n, int l) {
            int load = world.loadOf(n) + plan.ofLetter(l, Plan.SIZE);
            for (int i = 0; i < MOST_LETTERS && load > plan.rooms[n]; i++) {
                int victim = firstToGo(n);
                if (victim == NOBODY) {
                    return;
                }
                load -= plan.ofLetter(victim, Plan.SIZE);
                world.removeCopy(n, victim);
                world.counts[World.DROPPED]++;
            }
        }

        private int firstToGo(int n) {
            int found = NOBODY;
            int least = 0;
            for (int l = 0; l < plan.letters; l++) {
                if (!world.hasCopy(n, l) || plan.ofLetter(l, Plan.FROM) == n) {
                    continue;
                }
                int rank = rankToGo(n, l);
                if (found == NOBODY || rank < least) {
                    found = l;
                    least = rank;
                }
            }
            return found;
        }

        private int rankToGo(int n, int l) {
            switch (world.rules[World.POLICY]) {
                case DROPS_OLDEST: return world.since[n * MOST_LETTERS + l];
                case DROPS_GREATEST: return -plan.letterRows[l * Plan.LETTER_ROW + Plan.SIZE];
                default: return plan.letterRows[l * Plan.LETTER_ROW + Plan.BIRTH]
                        + plan.letterRows[l * Plan.LETTER_ROW + Plan.LIFE];
            }
        }

        /** The letter of the i-th copy in a node, below 0 if there are not so many. */
        int copyByOrder(int n, int i) {
            int count = listCopies(n, NOBODY);
            return i >= 0 && i < count ? order[i] : NOBODY;
        }

        /** Puts the letters of the copies in a node into order, those to the taker first: how many. */
        private int listCopies(int n, int taker) {
            int count = 0;
            for (int l = 0; l < plan.letters && count < MOST_LETTERS; l++) {
                if (!world.hasCopy(n, l)) {
                    continue;
                }
                int i = count;
                while (i > 0 && goesAhead(n, taker, l, order[i - 1])) {
                    order[i] = order[i - 1];
                    i--;
                }
                order[i] = l;
                count++;
            }
            return count;
        }

        private boolean goesAhead(int n, int taker, int l, int other) {
            boolean isToTaker = plan.ofLetter(l, Plan.TO) == taker;
            boolean otherIsToTaker = plan.ofLetter(other, Plan.TO) == taker;
            if (isToTaker != otherIsToTaker) {
                return isToTaker;
            }
            return world.hops[World.place(n, l)] < world.hops[World.place(n, other)];
        }

        int soonestOf(int l) {
            for (int n = 0; n < MOST_NODES; n++) {
                reached[n] = false;
            }
            reached[plan.ofLetter(l, Plan.FROM)] = true;
            int to = plan.ofLetter(l, Plan.TO);
            int end = plan.endOf(l);
            for (int minute = plan.ofLetter(l, Plan.BIRTH); minute < end; minute++) {
                spreadIn(minute);
                if (reached[to]) {
                    return minute;
                }
            }
            return NONE;
        }

        private void spreadIn(int minute) {
            for (int m = 0; m < plan.meetings; m++) {
                if (!plan.isAt(m, minute, world.rules[World.ROUND])) {
                    continue;
                }
                int first = plan.ofMeeting(m, Plan.FIRST);
                int other = plan.ofMeeting(m, Plan.OTHER);
                boolean either = reached[first] || reached[other];
                reached[first] = either;
                reached[other] = either;
            }
        }
    }
}
