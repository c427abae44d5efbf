import java.util.Arrays;

/**
 * A bench where programs are built twice: what steps make is laid side by side, differences are led
 * to the words that made them, and makers are followed down to seeds. ../shared/DOC.md has the promises.
 */
public final class BuiltTwice {
    public static final int BAD = -1, NOT = -2, FULL = -3, BIG = -4, RING = -5;

    private static final int TEXTS = 20, TEXT_BYTES = 60;
    private static final int ROOMS = 8, WORDS = 8, ALL_ROOMS = 255, ALL_WORDS = 255;
    private static final int STEPS = 24, INPUTS = 4, THING_BYTES = 200, TOP_BYTE = 255;
    private static final int INPUT_STEP = 100, ORDERED_STEPS = 16;
    private static final int MAKERS = 30, SEED = -1, NONE = -1;

    private static final int STAMP = 1, PACK = 2, STRIP = 3, MASK = 4, PICK = 5, SORT = 6, SIGN = 7;
    private static final int SIGN_START = 40503, SIGN_FACTOR = 16777619;

    private static final int OTHER = 0, OUT = 1, IN = 2, PASS = 3;

    private final Texts texts = new Texts();
    private final Plan plan = new Plan();
    private final int[][] words = new int[ROOMS][WORDS];
    private final Build first = new Build(plan, texts);
    private final Build second = new Build(plan, texts);
    private final Alignment alignment = new Alignment();
    private final OrderTable orderTable = new OrderTable();
    private final Makers makers = new Makers();

    public BuiltTwice() {
    }

    // ---- what there is

    public int feed(int n, int v) {
        if (n < 1 || n > 4) {
            return BAD;
        }
        Row tape = texts.tape;
        if (tape.size + n > TEXT_BYTES) {
            return FULL;
        }
        for (int k = 0; k < n; k++) {
            tape.put(v >>> (8 * k) & TOP_BYTE);
        }
        return tape.size;
    }

    public int text() {
        if (texts.size >= TEXTS) {
            return FULL;
        }
        texts.tapeTo(texts.size);
        texts.size++;
        return texts.size - 1;
    }

    public int write(int text) {
        if (!isText(text)) {
            return BAD;
        }
        return texts.tapeTo(text);
    }

    public int lack(int text, int is) {
        if (!isText(text) || !isBit(is)) {
            return BAD;
        }
        int was = texts.lacking >>> text & 1;
        texts.lacking = withBit(texts.lacking, text, is);
        return was;
    }

    public int word(int room, int word, int v) {
        if (!isRoom(room) || !isWord(word) || v < 0 || v > TOP_BYTE) {
            return BAD;
        }
        int was = words[room][word];
        words[room][word] = v;
        return was;
    }

    public int copy(int p, int q) {
        if (!areRooms(p, q)) {
            return BAD;
        }
        int others = Integer.bitCount(unlikeWords(p, q));
        System.arraycopy(words[p], 0, words[q], 0, WORDS);
        return others;
    }

    public int step(int tool, int a, int b) {
        if (tool < 0 || tool > SIGN || a < 0 || a > TOP_BYTE || b < 0 || b >= WORDS) {
            return BAD;
        }
        if (plan.size >= STEPS) {
            return FULL;
        }
        return plan.addStep(tool, a, b);
    }

    public int need(int step, int input) {
        if (!isStep(step) || !isInputFor(step, input)) {
            return BAD;
        }
        if ((plan.taken >>> step & 1) != 0) {
            return NOT;
        }
        if (plan.inputCount[step] >= INPUTS) {
            return FULL;
        }
        return plan.addInput(step, input);
    }

    // ---- building

    public int made(int room, int step) {
        if (!isRoom(room) || !isStep(step)) {
            return BAD;
        }
        first.makeIn(words[room], step);
        return first.fails[step] ? NOT : first.things[step].size;
    }

    public int at(int room, int step, int place) {
        if (!isRoom(room) || !isStep(step) || place < 0 || place >= THING_BYTES) {
            return BAD;
        }
        first.makeIn(words[room], step);
        if (first.fails[step]) {
            return NOT;
        }
        Row thing = first.things[step];
        return place < thing.size ? thing.bytes[place] : BAD;
    }

    public int reads(int room, int step, int what) {
        if (!isRoom(room) || !isStep(step) || !isBit(what)) {
            return BAD;
        }
        first.makeIn(words[room], step);
        return first.wordsRead(what == 0 ? 1 << step : plan.used[step]);
    }

    public int uses(int step, int what) {
        if (!isStep(step) || !isBit(what)) {
            return BAD;
        }
        return what == 0 ? plan.used[step] : plan.usedTexts[step];
    }

    public long orders(int step) {
        if (!isStep(step)) {
            return BAD;
        }
        if (Integer.bitCount(plan.used[step]) > ORDERED_STEPS) {
            return BIG;
        }
        return orderTable.ordersOf(plan, step);
    }

    public int built(int room) {
        if (!isRoom(room)) {
            return BAD;
        }
        first.open(words[room]);
        first.make(-1);
        int standing = 0;
        for (int s = 0; s < plan.size; s++) {
            standing += first.fails[s] ? 0 : 1;
        }
        return standing;
    }

    // ---- side by side

    public int alike(int p, int q, int step) {
        if (!areRooms(p, q) || !isStep(step)) {
            return BAD;
        }
        buildBoth(p, q, step);
        return sameThing(step) ? 1 : 0;
    }

    public int changes(int p, int q, int step) {
        if (!areRooms(p, q) || !isStep(step)) {
            return BAD;
        }
        buildBoth(p, q, step);
        if (first.fails[step] || second.fails[step]) {
            return NOT;
        }
        alignment.lay(first.things[step], second.things[step]);
        return alignment.size;
    }

    public int change(int i, int what) {
        if (i < 0 || i >= alignment.size || what < 0 || what > 2) {
            return BAD;
        }
        if (what == 0) {
            return alignment.kinds[i];
        }
        return what == 1 ? alignment.places[i] : alignment.comes[i];
    }

    public int cause(int p, int q, int step) {
        if (!areRooms(p, q) || !isStep(step)) {
            return BAD;
        }
        buildBoth(p, q, step);
        if (sameThing(step)) {
            return NOT;
        }
        // inputs have lesser numbers, so all inputs of the least unlike step are alike
        for (int s = 0; s < step; s++) {
            if ((plan.used[step] >>> s & 1) != 0 && !sameThing(s)) {
                return s;
            }
        }
        return step;
    }

    public int fix(int p, int q, int step) {
        if (!areRooms(p, q) || !isStep(step)) {
            return BAD;
        }
        buildBoth(p, q, step);
        // a word that is the same in both, or that no tool can read, is in no least set
        int open = plan.usedWords[step] & unlikeWords(p, q);
        for (int size = 0; size <= WORDS; size++) {
            for (int mask = 0; mask <= ALL_WORDS; mask++) {
                if (isPart(mask, open, size) && isFixedBy(mask, p, q, step)) {
                    return mask;
                }
            }
        }
        return open;
    }

    public int stable(int room, int step, int word, int n) {
        if (!isRoom(room) || !isStep(step) || !isWord(word) || n < 0 || n > TOP_BYTE) {
            return BAD;
        }
        return firstUnlike(room, step, word, n) == NONE ? 1 : 0;
    }

    public int breaks(int room, int step, int word) {
        if (!isRoom(room) || !isStep(step) || !isWord(word)) {
            return BAD;
        }
        int least = firstUnlike(room, step, word, TOP_BYTE);
        return least == NONE ? NOT : least;
    }

    public int rooms(int step, int set) {
        if (!isStep(step) || set < 1 || set > ALL_ROOMS) {
            return BAD;
        }
        first.makeIn(words[0], step);
        int read = first.wordsRead(plan.used[step]);
        for (int size = 1; size <= ROOMS; size++) {
            for (int mask = 1; mask <= ALL_ROOMS; mask++) {
                if (isPart(mask, set, size) && (read & ~wordsUnlikeIn(mask)) == 0) {
                    return mask;
                }
            }
        }
        return NOT;
    }

    // ---- makers

    public int maker(int maker, int by, int text) {
        if (!isMaker(maker) || by != SEED && (!isMaker(by) || !isText(text))) {
            return BAD;
        }
        makers.by[maker] = by;
        makers.from[maker] = by == SEED ? 0 : text;
        return 1;
    }

    public int down(int maker) {
        if (!isMaker(maker)) {
            return BAD;
        }
        return makers.ringStart(maker) == SEED ? Integer.bitCount(makers.way(maker)) - 1 : RING;
    }

    public int ring(int maker, int i) {
        if (!isMaker(maker)) {
            return BAD;
        }
        int start = makers.ringStart(maker);
        // "none such" speaks of a ring that there is: without one, no i is looked at
        if (start == SEED) {
            return NOT;
        }
        // from its start, the way goes just once round the ring
        return i >= 0 && i < Integer.bitCount(makers.way(start)) ? makers.after(start, i) : BAD;
    }

    public int needs(int maker, int what) {
        if (!isMaker(maker) || !isBit(what)) {
            return BAD;
        }
        int needed = makers.textsOn(makers.way(maker));
        return Integer.bitCount(what == 0 ? needed : needed & texts.lacking);
    }

    public int forge(int maker, int is) {
        if (!isMaker(maker) || !isBit(is)) {
            return BAD;
        }
        int was = makers.forged >>> maker & 1;
        makers.forged = withBit(makers.forged, maker, is);
        return was;
    }

    public int trust(int maker) {
        if (!isMaker(maker)) {
            return BAD;
        }
        return (makers.way(maker) & makers.forged) == 0 ? 1 : 0;
    }

    public int heirs(int maker) {
        if (!isMaker(maker)) {
            return BAD;
        }
        int leading = 0;
        for (int m = 0; m < MAKERS; m++) {
            if (m != maker && (makers.way(m) >>> maker & 1) != 0) {
                leading++;
            }
        }
        return leading;
    }

    public int count(int what) {
        switch (what) {
            case 0:
                return texts.size;
            case 1:
                return plan.size;
            case 2:
                return makers.seeds();
            case 3:
                return Integer.bitCount(makers.forged);
            case 4:
                return texts.tape.size;
            case 5:
                return Integer.bitCount(texts.lacking);
            default:
                return BAD;
        }
    }

    // ---- what a number may be

    private boolean isText(int text) {
        return text >= 0 && text < texts.size;
    }

    private boolean isStep(int step) {
        return step >= 0 && step < plan.size;
    }

    private boolean isInputFor(int step, int input) {
        return isText(input) || input >= INPUT_STEP && input < INPUT_STEP + step;
    }

    private static boolean isRoom(int room) {
        return room >= 0 && room < ROOMS;
    }

    private static boolean areRooms(int p, int q) {
        return isRoom(p) && isRoom(q);
    }

    private static boolean isWord(int word) {
        return word >= 0 && word < WORDS;
    }

    private static boolean isMaker(int maker) {
        return maker >= 0 && maker < MAKERS;
    }

    private static boolean isBit(int is) {
        return is == 0 || is == 1;
    }

    // ---- sets as bits

    private static int withBit(int set, int place, int is) {
        return set & ~(1 << place) | is << place;
    }

    private static boolean isPart(int mask, int of, int size) {
        return (mask & ~of) == 0 && Integer.bitCount(mask) == size;
    }

    private int unlikeWords(int p, int q) {
        int unlike = 0;
        for (int w = 0; w < WORDS; w++) {
            if (words[p][w] != words[q][w]) {
                unlike |= 1 << w;
            }
        }
        return unlike;
    }

    private int wordsUnlikeIn(int roomSet) {
        int least = Integer.numberOfTrailingZeros(roomSet);
        int unlike = 0;
        for (int r = least + 1; r < ROOMS; r++) {
            if ((roomSet >>> r & 1) != 0) {
                unlike |= unlikeWords(least, r);
            }
        }
        return unlike;
    }

    // ---- two builds

    private void buildBoth(int p, int q, int step) {
        first.makeIn(words[p], step);
        second.makeIn(words[q], step);
    }

    private boolean sameThing(int step) {
        if (first.fails[step] || second.fails[step]) {
            return first.fails[step] && second.fails[step];
        }
        return first.things[step].isSameAs(second.things[step]);
    }

    private boolean isFixedBy(int mask, int p, int q, int step) {
        for (int w = 0; w < WORDS; w++) {
            second.turn(w, words[(mask >>> w & 1) != 0 ? p : q][w]);
        }
        second.make(plan.used[step]);
        return sameThing(step);
    }

    /** The least value 0 .. n of a word by which a step is not what it is in the room. */
    private int firstUnlike(int room, int step, int word, int n) {
        if ((plan.usedWords[step] >>> word & 1) == 0) {
            return NONE;
        }
        first.makeIn(words[room], step);
        second.makeIn(words[room], step);
        for (int v = 0; v <= n; v++) {
            second.turn(word, v);
            second.make(plan.used[step]);
            if (!sameThing(step)) {
                return v;
            }
        }
        return NONE;
    }

    /** Bytes, as ints 0 .. 255, up to a most that is told once. */
    private static final class Row {
        private final int most;
        /** Made when the first bytes come: most rows of most objects stay empty, and a new object is cheap. */
        private int[] bytes = new int[0];
        private int size;

        Row(int most) {
            this.most = Math.max(most, 0);
        }

        boolean put(int v) {
            if (!makeSpaceFor(1)) {
                return false;
            }
            bytes[size] = v;
            size++;
            return true;
        }

        boolean append(Row more) {
            if (!makeSpaceFor(more.size)) {
                return false;
            }
            System.arraycopy(more.bytes, 0, bytes, size, more.size);
            size += more.size;
            return true;
        }

        private boolean makeSpaceFor(int n) {
            if (size + n > most) {
                return false;
            }
            if (n > 0 && bytes.length < most) {
                bytes = new int[most];
            }
            return true;
        }

        boolean isSameAs(Row that) {
            if (size != that.size) {
                return false;
            }
            for (int i = 0; i < size; i++) {
                if (bytes[i] != that.bytes[i]) {
                    return false;
                }
            }
            return true;
        }
    }

    /** THE TAPE, and the texts that were made of it. */
    private static final class Texts {
        private final Row tape = new Row(TEXT_BYTES);
        private final Row[] rows = new Row[TEXTS];
        private int size;
        private int lacking;

        Texts() {
            for (int t = 0; t < TEXTS; t++) {
                rows[t] = new Row(TEXT_BYTES);
            }
        }

        int tapeTo(int text) {
            rows[text].size = 0;
            rows[text].append(tape);
            tape.size = 0;
            return rows[text].size;
        }
    }

    /**
     * The steps. A step that another one has as input gets no more inputs, so what each one uses is
     * known as its inputs come, and never grows behind the back of those that use it.
     */
    private static final class Plan {
        private final int[] tools = new int[STEPS];
        private final int[] as = new int[STEPS];
        private final int[] bs = new int[STEPS];
        private final int[] inputs = new int[STEPS * INPUTS];
        private final int[] inputCount = new int[STEPS];
        private final int[] used = new int[STEPS];
        private final int[] usedTexts = new int[STEPS];
        /** The words that the tools of what a step uses would read, if none of them failed. */
        private final int[] usedWords = new int[STEPS];
        private int size;
        private int taken;

        int addStep(int tool, int a, int b) {
            int s = size;
            tools[s] = tool;
            as[s] = a;
            bs[s] = b;
            used[s] = 1 << s;
            usedWords[s] = ownWord(s);
            size++;
            return s;
        }

        int addInput(int step, int input) {
            inputs[step * INPUTS + inputCount[step]] = input;
            inputCount[step]++;
            if (input < INPUT_STEP) {
                usedTexts[step] |= 1 << input;
            } else {
                int s = input - INPUT_STEP;
                taken |= 1 << s;
                used[step] |= used[s];
                usedTexts[step] |= usedTexts[s];
                usedWords[step] |= usedWords[s];
            }
            return inputCount[step];
        }

        int input(int step, int k) {
            return inputs[step * INPUTS + k];
        }

        int ownWord(int step) {
            int tool = tools[step];
            return tool == STAMP || tool == PACK || tool == PICK ? 1 << bs[step] : 0;
        }

        int stepsReachedBy(int word) {
            int reached = 0;
            for (int s = 0; s < size; s++) {
                if ((usedWords[s] >>> word & 1) != 0) {
                    reached |= 1 << s;
                }
            }
            return reached;
        }
    }

    /** What steps make by one set of words; when a word turns, only what it can reach is made anew. */
    private static final class Build {
        private final Plan plan;
        private final Texts texts;
        private final int[] words = new int[WORDS];
        private final Row[] things = new Row[STEPS];
        private final boolean[] fails = new boolean[STEPS];
        private final int[] tally = new int[TOP_BYTE + 1];
        private int stale;

        Build(Plan plan, Texts texts) {
            this.plan = plan;
            this.texts = texts;
            for (int s = 0; s < STEPS; s++) {
                things[s] = new Row(THING_BYTES);
            }
        }

        void open(int[] room) {
            System.arraycopy(room, 0, words, 0, WORDS);
            stale = -1;
        }

        void makeIn(int[] room, int step) {
            open(room);
            make(plan.used[step]);
        }

        void turn(int word, int v) {
            if (words[word] != v) {
                words[word] = v;
                stale |= plan.stepsReachedBy(word);
            }
        }

        void make(int steps) {
            for (int s = 0; s < plan.size; s++) {
                if ((steps & stale & 1 << s) != 0) {
                    things[s].size = 0;
                    fails[s] = !hasGoodInputs(s) || !runTool(s, things[s]);
                }
            }
            stale &= ~steps;
        }

        int wordsRead(int steps) {
            int read = 0;
            for (int s = 0; s < plan.size; s++) {
                if ((steps >>> s & 1) != 0 && !fails[s]) {
                    read |= plan.ownWord(s);
                }
            }
            return read;
        }

        private boolean hasGoodInputs(int s) {
            for (int k = 0; k < plan.inputCount[s]; k++) {
                int input = plan.input(s, k);
                if (input < INPUT_STEP ? (texts.lacking >>> input & 1) != 0 : fails[input - INPUT_STEP]) {
                    return false;
                }
            }
            return plan.inputCount[s] > 0;
        }

        private Row inputRow(int s, int k) {
            int input = plan.input(s, k);
            return input < INPUT_STEP ? texts.rows[input] : things[input - INPUT_STEP];
        }

        /** False if what counts of the joined inputs is too long. */
        private boolean runTool(int s, Row out) {
            int tool = plan.tools[s];
            int a = plan.as[s];
            int word = words[plan.bs[s]];
            if (tool == PICK) {
                return out.append(inputRow(s, word < a ? 0 : plan.inputCount[s] - 1));
            }
            if (!join(s, out, tool == PACK && (word & 1) != 0)) {
                return false;
            }
            switch (tool) {
                case STAMP:
                    return out.put(word);
                case STRIP:
                    strip(out, a);
                    return true;
                case MASK:
                    mask(out, a);
                    return true;
                case SORT:
                    sort(out);
                    return true;
                case SIGN:
                    sign(out);
                    return true;
                default:
                    return true;
            }
        }

        private boolean join(int s, Row out, boolean lastFirst) {
            int n = plan.inputCount[s];
            for (int k = 0; k < n; k++) {
                if (!out.append(inputRow(s, lastFirst ? n - 1 - k : k))) {
                    return false;
                }
            }
            return true;
        }

        private static void strip(Row out, int a) {
            int kept = 0;
            for (int i = 0; i < out.size; i++) {
                if (out.bytes[i] != a) {
                    out.bytes[kept] = out.bytes[i];
                    kept++;
                }
            }
            out.size = kept;
        }

        private static void mask(Row out, int a) {
            for (int i = 0; i < out.size; i++) {
                out.bytes[i] ^= a;
            }
        }

        private void sort(Row out) {
            Arrays.fill(tally, 0);
            for (int i = 0; i < out.size; i++) {
                tally[out.bytes[i] & TOP_BYTE]++;
            }
            out.size = 0;
            for (int v = 0; v <= TOP_BYTE; v++) {
                for (int k = 0; k < tally[v]; k++) {
                    out.put(v);
                }
            }
        }

        private static void sign(Row out) {
            int h = SIGN_START;
            for (int i = 0; i < out.size; i++) {
                h = (h ^ out.bytes[i]) * SIGN_FACTOR;
            }
            out.size = 0;
            for (int shift = 24; shift >= 0; shift -= 8) {
                out.put(h >>> shift & TOP_BYTE);
            }
        }
    }

    /** The least changes from one row to another; they stay as they are till the next ones are laid. */
    private static final class Alignment {
        private final int[] kinds = new int[THING_BYTES];
        private final int[] places = new int[THING_BYTES];
        private final int[] comes = new int[THING_BYTES];
        /** Moves of two bits, sixteen to an int: a whole int for each would make every new object dear. */
        private final int[] moves = new int[THING_BYTES * THING_BYTES / 16];
        private int[] least = new int[THING_BYTES + 1];
        private int[] leastBehind = new int[THING_BYTES + 1];
        private int size;

        void lay(Row x, Row y) {
            int start = likeAhead(x, y);
            chooseMoves(x, y, start);
            follow(x, y, start);
        }

        /** Like bytes at the beginning are always passed, so no move needs to be chosen there. */
        private static int likeAhead(Row x, Row y) {
            int both = Math.min(x.size, y.size);
            for (int i = 0; i < both; i++) {
                if (x.bytes[i] != y.bytes[i]) {
                    return i;
                }
            }
            return both;
        }

        private void chooseMoves(Row x, Row y, int start) {
            for (int j = start; j <= y.size; j++) {
                least[j] = y.size - j;
            }
            for (int i = x.size - 1; i >= start; i--) {
                int[] behind = least;
                least = leastBehind;
                leastBehind = behind;
                least[y.size] = x.size - i;
                for (int j = y.size - 1; j >= start; j--) {
                    chooseMove(i, j, x.bytes[i] == y.bytes[j]);
                }
            }
        }

        private void chooseMove(int i, int j, boolean like) {
            int both = leastBehind[j + 1];
            int out = leastBehind[j];
            int in = least[j + 1];
            int move = PASS;
            if (like) {
                least[j] = both;
            } else {
                int fewest = Math.min(both, Math.min(out, in));
                least[j] = fewest + 1;
                move = both == fewest ? OTHER : out == fewest ? OUT : IN;
            }
            int cell = i * THING_BYTES + j;
            int shift = (cell & 15) * 2;
            moves[cell >> 4] = moves[cell >> 4] & ~(3 << shift) | move << shift;
        }

        private int moveAt(Row x, Row y, int i, int j) {
            if (i >= x.size) {
                return IN;
            }
            if (j >= y.size) {
                return OUT;
            }
            int cell = i * THING_BYTES + j;
            return moves[cell >> 4] >>> (cell & 15) * 2 & 3;
        }

        private void follow(Row x, Row y, int start) {
            int i = start;
            int j = start;
            size = 0;
            for (int k = 0; k < 2 * THING_BYTES && (i < x.size || j < y.size); k++) {
                int move = moveAt(x, y, i, j);
                if (move != PASS) {
                    note(move, i, move == OUT ? 0 : y.bytes[j]);
                }
                i += move == IN ? 0 : 1;
                j += move == OUT ? 0 : 1;
            }
        }

        private void note(int kind, int place, int comesThere) {
            if (size < THING_BYTES) {
                kinds[size] = kind;
                places[size] = place;
                comes[size] = comesThere;
                size++;
            }
        }
    }

    /** Counts in how many orders a step and all that it uses can be done. */
    private static final class OrderTable {
        /** In how many orders just the steps of a set can be done; grows with what is asked for. */
        private long[] ways = new long[1];
        private final int[] before = new int[ORDERED_STEPS];
        private final int[] number = new int[STEPS];

        long ordersOf(Plan plan, int step) {
            int n = numberOthers(plan, step);
            int sets = 1 << n;
            if (ways.length < sets) {
                ways = new long[sets];
            }
            Arrays.fill(ways, 0L);
            ways[0] = 1;
            for (int done = 0; done < sets; done++) {
                if (ways[done] != 0) {
                    doOneMore(done, n);
                }
            }
            return ways[sets - 1];
        }

        /** The step itself is always the last one, so just the others are ordered. */
        private int numberOthers(Plan plan, int step) {
            int n = 0;
            for (int s = 0; s < step; s++) {
                if ((plan.used[step] >>> s & 1) != 0 && n < ORDERED_STEPS - 1) {
                    number[s] = n;
                    before[n] = numberedInputs(plan, s);
                    n++;
                }
            }
            return n;
        }

        private int numberedInputs(Plan plan, int s) {
            int set = 0;
            for (int k = 0; k < plan.inputCount[s]; k++) {
                int input = plan.input(s, k);
                if (input >= INPUT_STEP) {
                    set |= 1 << number[input - INPUT_STEP];
                }
            }
            return set;
        }

        private void doOneMore(int done, int n) {
            for (int k = 0; k < n; k++) {
                if ((done >>> k & 1) == 0 && (before[k] & ~done) == 0) {
                    ways[done | 1 << k] += ways[done];
                }
            }
        }
    }

    /** Who made whom, from which text. */
    private static final class Makers {
        private final int[] by = new int[MAKERS];
        private final int[] from = new int[MAKERS];
        private int forged;

        Makers() {
            Arrays.fill(by, SEED);
        }

        /** A maker and all on its way down, as bits. */
        int way(int maker) {
            int seen = 0;
            int m = maker;
            for (int k = 0; k < MAKERS && m != SEED && (seen >>> m & 1) == 0; k++) {
                seen |= 1 << m;
                m = by[m];
            }
            return seen;
        }

        /** The first maker to which one comes that is in a ring: the first one to which one comes again. */
        int ringStart(int maker) {
            return after(maker, Integer.bitCount(way(maker)));
        }

        /** Where one is after so many goes down: SEED, if one would go on from a seed. */
        int after(int maker, int goes) {
            int m = maker;
            for (int k = 0; k < goes && m != SEED; k++) {
                m = by[m];
            }
            return m;
        }

        int textsOn(int way) {
            int needed = 0;
            for (int m = 0; m < MAKERS; m++) {
                if ((way >>> m & 1) != 0 && by[m] != SEED) {
                    needed |= 1 << from[m];
                }
            }
            return needed;
        }

        int seeds() {
            int n = 0;
            for (int m = 0; m < MAKERS; m++) {
                n += by[m] == SEED ? 1 : 0;
            }
            return n;
        }
    }
}
