/** Promises 16 to 23, and the terms on which they rest: two builds side by side. */
public final class SideBySideTest extends Bench {
    public static void main(String[] args) {
        runAll(SideBySideTest.class);
    }

    /** How many changes there are from one text to another; they can be asked for then. */
    private static BuiltTwice laid(String from, String to, int want) {
        BuiltTwice x = new BuiltTwice();
        due("changes from " + from + " to " + to, want, x.changes(0, 1, twoThings(x, from, to)));
        due("no more than " + want, BAD, x.change(want, 0));
        return x;
    }

    /** Step 0 makes 200 bytes 0 .. 49 four times, step 1 200 bytes 100 .. 149 four times; text 2 is empty. */
    private static BuiltTwice twoOf200() {
        BuiltTwice x = new BuiltTwice();
        textOfLength(x, 50);
        for (int v = 100; v < 150; v++) {
            x.feed(1, v);
        }
        x.text();
        x.text();
        stepOf(x, JOIN, 0, 0, 0, 0, 0, 0);
        stepOf(x, JOIN, 0, 0, 1, 1, 1, 1);
        x.word(1, 0, 1);
        return x;
    }

    /** Step w stamps word w on what step w - 1 makes, for all eight words. */
    private static BuiltTwice stampsOfAllWords() {
        BuiltTwice x = new BuiltTwice();
        textOf(x, "a");
        for (int w = 0; w < 8; w++) {
            stepOf(x, STAMP, 0, w, w == 0 ? 0 : STEP + w - 1);
        }
        return x;
    }

    /** Word r is 1 in room r, and 0 in all others. */
    private static BuiltTwice eachRoomItsOwnWord() {
        BuiltTwice x = stampsOfAllWords();
        for (int r = 0; r < 8; r++) {
            x.word(r, r, 1);
        }
        return x;
    }

    /** Text 0 is a, text 1 is b. */
    private static BuiltTwice withAAndB() {
        BuiltTwice x = new BuiltTwice();
        textOf(x, "a");
        textOf(x, "b");
        return x;
    }

    // ---- the least changes

    @Says("CHANGES from bytes x to bytes y: the fewest by which x becomes y: a byte put in, taken out, or made another one.")
    private static void changesOfNothing() {
        laid("", "", 0);
        laid("", "a", 1);
        laid("a", "", 1);
        laid("abc", "abc", 0);
        dueChange(laid("", "abc", 3), 2, 2, 0, 'c');
        dueChange(laid("abc", "", 3), 2, 1, 2, 0);
    }

    @Says("CHANGES from bytes x to bytes y: the fewest by which x becomes y: a byte put in, taken out, or made another one.")
    private static void changesAreTheFewest() {
        laid("kitten", "sitting", 3);
        laid("abcdefgh", "bcdefghi", 2);
        laid("ab", "ba", 2);
        laid("abcd", "efgh", 4);
        laid("aaaaab", "baaaaa", 2);
        laid("abcabc", "abc", 3);
    }

    @Says("CHANGES from bytes x to bytes y: the fewest by which x becomes y: a byte put in, taken out, or made another one.")
    private static void changesOf200Bytes() {
        BuiltTwice x = twoOf200();
        int s = stepOf(x, PICK, 1, 0, STEP + 0, STEP + 1);
        due("all other", 200, x.changes(0, 1, s));
        dueChange(x, 0, 0, 0, 100);
        dueChange(x, 199, 0, 199, 149);
        due("201 there cannot be", BAD, x.change(200, 0));
        due("none", 0, x.changes(0, 0, s));
        int none = stepOf(x, PICK, 1, 0, STEP + 0, 2);
        due("all taken out", 200, x.changes(0, 1, none));
        dueChange(x, 0, 1, 0, 0);
        dueChange(x, 199, 1, 199, 0);
        due("all put in", 200, x.changes(1, 0, none));
        dueChange(x, 0, 2, 0, 0);
        dueChange(x, 199, 2, 0, 49);
    }

    @Says("CHANGES from bytes x to bytes y: the fewest by which x becomes y: a byte put in, taken out, or made another one.")
    private static void changesAtBothEndsOf200Bytes() {
        BuiltTwice x = new BuiltTwice();
        textOfLength(x, 60);
        textOfLength(x, 19);
        textOf(x, 200);
        stepOf(x, JOIN, 0, 0, 0, 0, 0, 1);
        int s = stepOf(x, PACK, 0, 0, 2, STEP + 0);
        x.word(1, 0, 1);
        due("from its beginning to its end", 2, x.changes(0, 1, s));
        dueChange(x, 0, 1, 0, 0);
        dueChange(x, 1, 2, 200, 200);
        due("from its end to its beginning", 2, x.changes(1, 0, s));
        dueChange(x, 0, 2, 0, 200);
        dueChange(x, 1, 1, 199, 0);
    }

    @Says("CHANGES from bytes x to bytes y: the fewest by which x becomes y: a byte put in, taken out, or made another one.")
    private static void changesOf20BytesFromOneEndTo180AheadOfThem() {
        BuiltTwice x = new BuiltTwice();
        for (int from = 0; from < 200; from += 60) {
            for (int v = from; v < Math.min(from + 60, 200); v++) {
                x.feed(1, v);
            }
            x.text();
        }
        stepOf(x, JOIN, 0, 0, 0, 1, 2);
        int s = stepOf(x, PACK, 0, 0, 3, STEP + 0);
        x.word(1, 0, 1);
        due("20 out, 20 in", 40, x.changes(0, 1, s));
        dueChange(x, 0, 1, 0, 0);
        dueChange(x, 19, 1, 19, 0);
        dueChange(x, 20, 2, 200, 180);
        dueChange(x, 39, 2, 200, 199);
    }

    @Says("CHANGES from bytes x to bytes y: the fewest by which x becomes y: a byte put in, taken out, or made another one.")
    private static void fewBytesAreLaidAfterMany() {
        BuiltTwice x = new BuiltTwice();
        int many = twoThings(x, "abcdefghi", "rstuvwxyz");
        int one = twoThings(x, "a", "b");
        int three = twoThings(x, "abc", "xbz");
        for (int again = 0; again < 2; again++) {
            due("many", 9, x.changes(0, 1, many));
            due("one", 1, x.changes(0, 1, one));
            dueChange(x, 0, 0, 0, 'b');
            due("two of three", 2, x.changes(0, 1, three));
            dueChange(x, 1, 0, 2, 'z');
            due("one, the other way", 1, x.changes(1, 0, one));
        }
    }

    @Says("both next bytes are passed if they are like and what is left then can be done by as few;")
    private static void likeBytesArePassedFirst() {
        dueChange(laid("aa", "a", 1), 0, 1, 1, 0);
        dueChange(laid("a", "aa", 1), 0, 2, 1, 'a');
        BuiltTwice x = laid("aba", "a", 2);
        dueChange(x, 0, 1, 1, 0);
        dueChange(x, 1, 1, 2, 0);
        dueChange(laid("abab", "ab", 2), 0, 1, 2, 0);
    }

    @Says("else the first of these, in this order, by which it can: another byte in place of x's, x's taken out, y's put in.")
    private static void anotherByteComesAheadOfTakingOut() {
        BuiltTwice x = laid("ab", "c", 2);
        dueChange(x, 0, 0, 0, 'c');
        dueChange(x, 1, 1, 1, 0);
    }

    @Says("else the first of these, in this order, by which it can: another byte in place of x's, x's taken out, y's put in.")
    private static void anotherByteComesAheadOfPuttingIn() {
        BuiltTwice x = laid("c", "ab", 2);
        dueChange(x, 0, 0, 0, 'a');
        dueChange(x, 1, 2, 1, 'b');
        BuiltTwice y = laid("ab", "ba", 2);
        dueChange(y, 0, 0, 0, 'b');
        dueChange(y, 1, 0, 1, 'a');
    }

    @Says("else the first of these, in this order, by which it can: another byte in place of x's, x's taken out, y's put in.")
    private static void takingOutComesAheadOfPuttingIn() {
        BuiltTwice x = laid("abab", "baba", 2);
        dueChange(x, 0, 1, 0, 0);
        dueChange(x, 1, 2, 4, 'a');
    }

    @Says("else the first of these, in this order, by which it can: another byte in place of x's, x's taken out, y's put in.")
    private static void justOneOfThemCan() {
        dueChange(laid("abc", "abd", 1), 0, 0, 2, 'd');
        dueChange(laid("xab", "ab", 1), 0, 1, 0, 0);
        dueChange(laid("ab", "xab", 1), 0, 2, 0, 'x');
        BuiltTwice out = laid("abc", "bcd", 2);
        dueChange(out, 0, 1, 0, 0);
        dueChange(out, 1, 2, 3, 'd');
        BuiltTwice in = laid("bcd", "abc", 2);
        dueChange(in, 0, 2, 0, 'a');
        dueChange(in, 1, 1, 2, 0);
    }

    // ---- 16 alike

    @Says("Two STEPS' things (of one STEP in two ROOMS) are ALIKE if both FAIL, or neither and their bytes are the same.")
    private static void bothFailingAreAlikeOneFailingIsNot() {
        BuiltTwice x = new BuiltTwice();
        failsInRoom0(x);
        due("both fail", 1, x.alike(0, 2, 2));
        due("the first fails", 0, x.alike(0, 1, 2));
        due("the second fails", 0, x.alike(1, 0, 2));
        due("one room, in which it fails", 1, x.alike(0, 0, 2));
        x.text();
        int none = stepOf(x, PICK, 0, 0, STEP + 2, 2);
        due("it makes no bytes", 0, x.made(1, none));
        due("failing and no bytes", 0, x.alike(0, 1, none));
        due("no bytes and failing", 0, x.alike(1, 0, none));
    }

    @Says("Two STEPS' things (of one STEP in two ROOMS) are ALIKE if both FAIL, or neither and their bytes are the same.")
    private static void bytesAreTheSameToTheLastOne() {
        BuiltTwice x = new BuiltTwice();
        due("the last byte is other", 0, x.alike(0, 1, twoThings(x, "abc", "abd")));
        due("the first byte is other", 0, x.alike(0, 1, twoThings(x, "abc", "bbc")));
        due("one byte more", 0, x.alike(0, 1, twoThings(x, "abc", "abcd")));
        due("one byte less", 0, x.alike(0, 1, twoThings(x, "abc", "ab")));
        due("the same", 1, x.alike(0, 1, twoThings(x, "abc", "abc")));
        due("both without bytes", 1, x.alike(0, 1, twoThings(x, "", "")));
    }

    @Says(promise = 16, value = "1 if a STEP is ALIKE in two ROOMS, else 0. BAD.")
    private static void alikeTakesTwoRoomsAndAStep() {
        BuiltTwice x = stampsOfAllWords();
        dueRange("first room", 0, 7, p -> x.alike(p, 0, 7));
        dueRange("second room", 0, 7, q -> x.alike(0, q, 7));
        dueRange("step", 0, 7, s -> x.alike(0, 1, s));
        x.word(7, 7, 1);
        due("rooms 0 and 7", 0, x.alike(0, 7, 7));
        due("rooms 7 and 7", 1, x.alike(7, 7, 7));
        due("step 6", 1, x.alike(0, 7, 6));
    }

    // ---- 17 changes

    @Says(promise = 17, value = "CHANGES from what a STEP makes in ROOM p to what it makes in ROOM q: how many. BAD.")
    private static void changesTakesTwoRoomsAndAStep() {
        BuiltTwice x = stampsOfAllWords();
        dueRange("first room", 0, 7, p -> x.changes(p, 0, 7));
        dueRange("second room", 0, 7, q -> x.changes(0, q, 7));
        dueRange("step", 0, 7, s -> x.changes(0, 1, s));
        due("one room", 0, x.changes(7, 7, 7));
    }

    @Says(promise = 17, value = "NOT: it FAILS in one of them.")
    private static void changesIsNotIfItFailsInOneOrBoth() {
        BuiltTwice x = new BuiltTwice();
        failsInRoom0(x);
        due("in the first", NOT, x.changes(0, 1, 2));
        due("in the second", NOT, x.changes(1, 0, 2));
        due("in both", NOT, x.changes(0, 2, 2));
        due("in neither", 0, x.changes(1, 1, 2));
    }

    @Says("Answers, of several the one named first:")
    private static void changesIsBadBeforeItIsNot() {
        BuiltTwice x = new BuiltTwice();
        failsInRoom0(x);
        due("it fails in 0, no room 8", BAD, x.changes(0, 8, 2));
        due("no room -1, it fails in 0", BAD, x.changes(-1, 0, 2));
    }

    // ---- 18 change

    @Says(promise = 18, value = "Change i of the latest changes() that was not refused, as ALIGNED:")
    private static void changeIsBadWithoutChanges() {
        BuiltTwice x = new BuiltTwice();
        due("before any changes()", BAD, x.change(0, 0));
        int s = twoThings(x, "a", "b");
        due("before any changes(), with a step", BAD, x.change(0, 0));
        x.changes(0, 0, s);
        due("of none", BAD, x.change(0, 0));
        x.changes(0, 1, s);
        due("of one", 0, x.change(0, 0));
        due("of one, 1", BAD, x.change(1, 0));
    }

    @Says(promise = 18, value = "Change i of the latest changes() that was not refused, as ALIGNED:")
    private static void changeTakesEachChangeThatThereIs() {
        BuiltTwice x = laid("abc", "xyz", 3);
        for (int what = 0; what <= 2; what++) {
            int asked = what;
            dueRange("i, what " + what, 0, 2, i -> x.change(i, asked));
        }
    }

    @Says(promise = 18, value = "Change i of the latest changes() that was not refused, as ALIGNED:")
    private static void refusedChangesLeaveTheLatest() {
        BuiltTwice x = laid("abc", "abd", 1);
        int failing = x.step(JOIN, 0, 0);
        due("not", NOT, x.changes(0, 1, failing));
        dueChange(x, 0, 0, 2, 'd');
        due("bad", BAD, x.changes(0, 8, 0));
        dueChange(x, 0, 0, 2, 'd');
        due("bad step", BAD, x.changes(1, 0, 2));
        dueChange(x, 0, 0, 2, 'd');
        due("one change, still", BAD, x.change(1, 0));
    }

    @Says(promise = 18, value = "Change i of the latest changes() that was not refused, as ALIGNED:")
    private static void whatIsLaidStaysThoughItsThingsChange() {
        BuiltTwice x = laid("abc", "abd", 1);
        x.write(0);
        x.lack(1, 1);
        x.word(1, 7, 0);
        x.alike(0, 1, 0);
        x.fix(0, 1, 0);
        x.breaks(0, 0, 7);
        dueChange(x, 0, 0, 2, 'd');
    }

    @Says(promise = 18, value = "what 0: 0 another byte, 1 taken out, 2 put in;")
    private static void kindsOfAChange() {
        due("0 another byte", 0, laid("a", "b", 1).change(0, 0));
        due("1 taken out", 1, laid("a", "", 1).change(0, 0));
        due("2 put in", 2, laid("", "b", 1).change(0, 0));
    }

    @Says(promise = 18, value = "1 its place in the first bytes (of one put in: that of the byte ahead of which it comes, or the length);")
    private static void placeOfOnePutIn() {
        due("into nothing", 0, laid("", "x", 1).change(0, 1));
        due("ahead of the first", 0, laid("ab", "xab", 1).change(0, 1));
        due("between", 1, laid("ab", "axb", 1).change(0, 1));
        due("behind the last", 2, laid("ab", "abx", 1).change(0, 1));
        BuiltTwice x = laid("ab", "abxyz", 3);
        for (int i = 0; i < 3; i++) {
            due("all behind the last, " + i, 2, x.change(i, 1));
        }
        BuiltTwice y = laid("ab", "xyzab", 3);
        for (int i = 0; i < 3; i++) {
            due("all ahead of the first, " + i, 0, y.change(i, 1));
        }
    }

    @Says(promise = 18, value = "1 its place in the first bytes (of one put in: that of the byte ahead of which it comes, or the length);")
    private static void placesAreOfTheFirstBytes() {
        BuiltTwice x = laid("abcdef", "xabcef", 2);
        dueChange(x, 0, 2, 0, 'x');
        dueChange(x, 1, 1, 3, 0);
        BuiltTwice y = laid("abcdef", "bcdxf", 2);
        dueChange(y, 0, 1, 0, 0);
        dueChange(y, 1, 0, 4, 'x');
    }

    @Says(promise = 18, value = "2 the byte that comes there (of one taken out 0).")
    private static void theByteThatComes() {
        due("another", 'b', laid("a", "b", 1).change(0, 2));
        due("put in", 'b', laid("", "b", 1).change(0, 2));
        due("taken out", 0, laid("a", "", 1).change(0, 2));
        BuiltTwice x = new BuiltTwice();
        textOf(x, 0);
        textOf(x, 255);
        stepOf(x, PICK, 1, 0, 0, 1);
        x.word(1, 0, 1);
        x.changes(0, 1, 0);
        due("255 for 0", 255, x.change(0, 2));
        x.changes(1, 0, 0);
        due("0 for 255", 0, x.change(0, 2));
        due("0 for 255 is another byte", 0, x.change(0, 0));
    }

    @Says(promise = 18, value = "2 the byte that comes there (of one taken out 0). BAD.")
    private static void changeIsBadForNoChangeAndForNoWhat() {
        BuiltTwice x = laid("a", "b", 1);
        dueRange("what", 0, 2, what -> x.change(0, what));
        dueRange("i", 0, 0, i -> x.change(i, 2));
        due("neither", BAD, x.change(1, 3));
    }

    // ---- 19 cause

    @Says("CAUSE of a STEP in ROOMS p, q, if it is not ALIKE in both: the least STEP that it USES, or itself, whose things are not ALIKE, all its INPUTS being so;")
    private static void causeIsTheFirstOrItselfOrTheLeast() {
        BuiltTwice x = stampsOfAllWords();
        x.word(1, 7, 1);
        due("itself", 7, x.cause(0, 1, 7));
        x.word(1, 3, 1);
        due("one below", 3, x.cause(0, 1, 7));
        x.word(1, 0, 1);
        due("the first of all", 0, x.cause(0, 1, 7));
        due("the other way round", 0, x.cause(1, 0, 7));
    }

    @Says("CAUSE of a STEP in ROOMS p, q, if it is not ALIKE in both: the least STEP that it USES, or itself, whose things are not ALIKE, all its INPUTS being so;")
    private static void causeIsTheLesserOfTwoThatBothAre() {
        BuiltTwice x = withAAndB();
        stepOf(x, STAMP, 0, 5, 0);
        stepOf(x, STAMP, 0, 4, 0);
        stepOf(x, STAMP, 0, 3, 0);
        stepOf(x, JOIN, 0, 0, STEP + 2, STEP + 1);
        for (int w = 3; w <= 5; w++) {
            x.word(1, w, 1);
        }
        due("step 0 is not used", 1, x.cause(0, 1, 3));
        due("step 0 has its own", 0, x.cause(0, 1, 0));
        due("step 0 is not used still", 1, x.cause(0, 1, 3));
        x.word(1, 4, 0);
        due("step 1 is alike now", 2, x.cause(0, 1, 3));
    }

    @Says("CAUSE of a STEP in ROOMS p, q, if it is not ALIKE in both: the least STEP that it USES, or itself, whose things are not ALIKE, all its INPUTS being so;")
    private static void causeMayBeBelowOneThatIsAlike() {
        BuiltTwice x = withAAndB();
        stepOf(x, STAMP, 0, 0, 0);
        stepOf(x, PICK, 0, 1, STEP + 0, 1);
        stepOf(x, STAMP, 0, 2, STEP + 1);
        x.word(1, 0, 1);
        x.word(1, 2, 1);
        due("the one between is alike", 1, x.alike(0, 1, 1));
        due("the least one used", 0, x.cause(0, 1, 2));
    }

    @Says("CAUSE of a STEP in ROOMS p, q, if it is not ALIKE in both: the least STEP that it USES, or itself, whose things are not ALIKE, all its INPUTS being so;")
    private static void causeOfFailingInOneRoom() {
        BuiltTwice x = new BuiltTwice();
        failsInRoom0(x);
        due("fails in the first", 0, x.cause(0, 1, 2));
        due("fails in the second", 0, x.cause(1, 0, 2));
    }

    @Says("(It reads a WORD that is not the same in p and q.)")
    private static void theCauseReadsAnUnlikeWord() {
        BuiltTwice x = stampsOfAllWords();
        for (int w = 7; w >= 0; w--) {
            x.word(1, w, 200);
            due("cause", w, x.cause(0, 1, 7));
            due("its word", 1 << w, x.reads(0, x.cause(0, 1, 7), 0));
        }
    }

    @Says(promise = 19, value = "CAUSE: the STEP. BAD. NOT: it is ALIKE.")
    private static void causeIsNotIfAlike() {
        BuiltTwice x = stampsOfAllWords();
        due("all words the same", NOT, x.cause(0, 1, 7));
        x.word(1, 7, 1);
        due("unlike above it", NOT, x.cause(0, 1, 6));
        due("one room", NOT, x.cause(1, 1, 7));
        due("both fail", NOT, x.cause(0, 1, x.step(STAMP, 0, 7)));
    }

    @Says(promise = 19, value = "CAUSE: the STEP. BAD. NOT: it is ALIKE.")
    private static void causeTakesTwoRoomsAndAStep() {
        BuiltTwice x = stampsOfAllWords();
        dueRange("first room", 0, 7, p -> x.cause(p, 0, 7));
        dueRange("second room", 0, 7, q -> x.cause(0, q, 7));
        dueRange("step", 0, 7, s -> x.cause(0, 1, s));
        due("bad before not", BAD, x.cause(8, 8, 7));
    }

    // ---- 20 fix

    @Says("FIX: the least set of WORDS (fewest, then the least mask) which, given in q the values they have in p, makes the STEP ALIKE in p and q so changed.")
    private static void fixOfOneToAllWords() {
        BuiltTwice x = stampsOfAllWords();
        int mask = 0;
        for (int w = 7; w >= 0; w--) {
            x.word(1, w, 1);
            mask |= 1 << w;
            due("words from " + w, mask, x.fix(0, 1, 7));
        }
        due("all eight", 255, mask);
        due("just those that it uses", 15, x.fix(0, 1, 3));
        due("just one", 1, x.fix(0, 1, 0));
    }

    @Says("FIX: the least set of WORDS (fewest, then the least mask) which, given in q the values they have in p, makes the STEP ALIKE in p and q so changed.")
    private static void fixTakesFewerThoughTheMaskIsGreater() {
        BuiltTwice x = withAAndB();
        // a where word 7 is 0, and where words 0 and 1 both are 0; else b
        stepOf(x, PICK, 1, 0, 0, 1);
        stepOf(x, PICK, 1, 1, STEP + 0, 1);
        stepOf(x, PICK, 1, 7, 0, STEP + 1);
        for (int w : new int[] {0, 1, 7}) {
            x.word(1, w, 1);
        }
        due("word 7 alone", 128, x.fix(0, 1, 2));
        due("words 0 and 1, below it", 3, x.fix(0, 1, 1));
        x.word(0, 7, 1);
        due("words 0 and 1, word 7 being the same", 3, x.fix(0, 1, 2));
    }

    @Says("FIX: the least set of WORDS (fewest, then the least mask) which, given in q the values they have in p, makes the STEP ALIKE in p and q so changed.")
    private static void fixTakesTheLeastMaskOfAsFew() {
        BuiltTwice x = withAAndB();
        // a, but for b where words 2, 5 and 6 all are 1
        stepOf(x, PICK, 1, 6, 0, 1);
        stepOf(x, PICK, 1, 2, 0, STEP + 0);
        stepOf(x, PICK, 1, 5, 0, STEP + 1);
        for (int w : new int[] {2, 5, 6}) {
            x.word(1, w, 1);
        }
        due("the least of three", 4, x.fix(0, 1, 2));
        x.word(0, 2, 1);
        due("the least of two", 32, x.fix(0, 1, 2));
        x.word(0, 5, 1);
        due("the only one", 64, x.fix(0, 1, 2));
    }

    @Says("FIX: the least set of WORDS (fewest, then the least mask) which, given in q the values they have in p, makes the STEP ALIKE in p and q so changed.")
    private static void fixGivesQTheValuesOfP() {
        BuiltTwice x = withAAndB();
        // in room 0 a stamp is not picked, in room 1 it is: word 3 mends both ways, word 0 none
        stepOf(x, STAMP, 0, 0, 1);
        stepOf(x, PICK, 1, 3, 0, STEP + 0);
        x.word(1, 0, 9);
        x.word(1, 3, 1);
        due("from room 0", 8, x.fix(0, 1, 1));
        due("from room 1", 9, x.fix(1, 0, 1));
    }

    @Says("FIX: the least set of WORDS (fewest, then the least mask) which, given in q the values they have in p, makes the STEP ALIKE in p and q so changed.")
    private static void fixOfAStepThatFailsInOneRoom() {
        BuiltTwice x = new BuiltTwice();
        failsInRoom0(x);
        x.word(1, 5, 1);
        due("so that it fails in both", 1, x.fix(0, 1, 2));
        due("so that it fails in neither", 33, x.fix(1, 0, 2));
    }

    @Says(promise = 20, value = "FIX: the mask (0: it is ALIKE as it is). BAD.")
    private static void fixIs0IfAlike() {
        BuiltTwice x = stampsOfAllWords();
        due("all words the same", 0, x.fix(0, 1, 7));
        due("one room", 0, x.fix(1, 1, 7));
        x.word(1, 7, 1);
        due("unlike above it", 0, x.fix(0, 1, 6));
        due("both fail", 0, x.fix(0, 1, x.step(STAMP, 0, 7)));
        int even = stepOf(x, PACK, 0, 6, 0, STEP + 0);
        x.word(1, 6, 2);
        due("a word that is read is unlike, what is made is not", 0, x.fix(0, 1, even));
    }

    @Says(promise = 20, value = "FIX: the mask (0: it is ALIKE as it is). BAD.")
    private static void fixTakesTwoRoomsAndAStep() {
        BuiltTwice x = stampsOfAllWords();
        dueRange("first room", 0, 7, p -> x.fix(p, 0, 7));
        dueRange("second room", 0, 7, q -> x.fix(0, q, 7));
        dueRange("step", 0, 7, s -> x.fix(0, 1, s));
    }

    @Says(promise = 20, value = "FIX: the mask (0: it is ALIKE as it is). BAD.")
    private static void fixLeavesTheRoomsAsTheyAre() {
        BuiltTwice x = stampsOfAllWords();
        for (int w = 0; w < 8; w++) {
            x.word(1, w, 10 + w);
        }
        x.fix(0, 1, 7);
        for (int w = 0; w < 8; w++) {
            due("room 0", 0, x.word(0, w, 0));
            due("room 1", 10 + w, x.word(1, w, 0));
        }
    }

    // ---- 21 stable

    @Says("STABLE: a WORD is, for a STEP and ROOM, by n: for all values 0 .. n of that WORD in that ROOM the STEP is ALIKE to what it is there.")
    private static void stableUpToTheValueThatBreaks() {
        for (int a : new int[] {1, 2, 128, 255}) {
            BuiltTwice x = withAAndB();
            stepOf(x, PICK, a, 3, 0, 1);
            due("just below " + a, 1, x.stable(0, 0, 3, a - 1));
            due("at " + a, 0, x.stable(0, 0, 3, a));
            due("by 255", 0, x.stable(0, 0, 3, 255));
            x.word(0, 3, a);
            due("there it is the other one", 0, x.stable(0, 0, 3, 0));
        }
    }

    @Says("STABLE: a WORD is, for a STEP and ROOM, by n: for all values 0 .. n of that WORD in that ROOM the STEP is ALIKE to what it is there.")
    private static void stableByItsOwnValueAlone() {
        BuiltTwice x = stampsOfAllWords();
        due("0 is what it is, by 0", 1, x.stable(0, 7, 7, 0));
        due("0 is what it is, by 1", 0, x.stable(0, 7, 7, 1));
        x.word(0, 7, 1);
        due("1 is what it is, by 0", 0, x.stable(0, 7, 7, 0));
        due("1 is what it is, by 1", 0, x.stable(0, 7, 7, 1));
    }

    @Says("STABLE: a WORD is, for a STEP and ROOM, by n: for all values 0 .. n of that WORD in that ROOM the STEP is ALIKE to what it is there.")
    private static void stableInFailingAndOutOfIt() {
        BuiltTwice x = new BuiltTwice();
        failsInRoom0(x);
        due("it fails by all values to 76", 1, x.stable(0, 2, 0, 76));
        due("it stands by 77", 0, x.stable(0, 2, 0, 77));
        due("it stands by 77, fails by 0", 0, x.stable(1, 2, 0, 0));
        due("it fails by all values", 1, x.stable(0, x.step(STAMP, 0, 0), 0, 255));
    }

    @Says("STABLE: a WORD is, for a STEP and ROOM, by n: for all values 0 .. n of that WORD in that ROOM the STEP is ALIKE to what it is there.")
    private static void stableByAWordThatIsNotReadOrDoesNothing() {
        BuiltTwice x = stampsOfAllWords();
        due("not read", 1, x.stable(0, 0, 7, 255));
        due("read above it", 1, x.stable(0, 6, 7, 255));
        due("PACK of one input", 1, x.stable(0, stepOf(x, PACK, 0, 7, 0), 7, 255));
        due("PICK of one like the other", 1, x.stable(0, stepOf(x, PICK, 9, 7, 0, 0), 7, 255));
        due("PICK by a 0", 1, x.stable(0, stepOf(x, PICK, 0, 7, 0, STEP + 0), 7, 255));
    }

    @Says(promise = 21, value = "STABLE by n (0 .. 255): 1; 0: it is not. BAD.")
    private static void stableTakesNOf0To255() {
        BuiltTwice x = stampsOfAllWords();
        dueRange("n", 0, 255, n -> x.stable(0, 0, 0, n));
        dueRange("n of a word not read", 0, 255, n -> x.stable(0, 0, 7, n));
        dueRange("word", 0, 7, w -> x.stable(0, 7, w, 0));
        dueRange("room", 0, 7, r -> x.stable(r, 7, 0, 0));
        dueRange("step", 0, 7, s -> x.stable(0, s, 0, 0));
    }

    @Says(promise = 21, value = "STABLE by n (0 .. 255): 1; 0: it is not. BAD.")
    private static void stableLeavesTheWordAsItIs() {
        BuiltTwice x = stampsOfAllWords();
        x.word(0, 7, 5);
        x.stable(0, 7, 7, 255);
        due("the word", 5, x.word(0, 7, 5));
        due("what is made", 5, x.at(0, 7, 8));
    }

    // ---- 22 breaks

    @Says(promise = 22, value = "The least value 0 .. 255 of a WORD by which a STEP is not ALIKE to what it is in a ROOM. BAD.")
    private static void breaksAtEachEnd() {
        BuiltTwice x = withAAndB();
        int last = stepOf(x, PICK, 255, 3, 0, 1);
        int first = stepOf(x, PICK, 1, 3, 0, 1);
        due("255 is the only one", 255, x.breaks(0, last, 3));
        due("1 is the least one", 1, x.breaks(0, first, 3));
        x.word(0, 3, 255);
        due("0 of all below 255", 0, x.breaks(0, last, 3));
        due("0 is the only one", 0, x.breaks(0, first, 3));
        x.word(0, 3, 254);
        due("254 is as 0", 255, x.breaks(0, last, 3));
    }

    @Says(promise = 22, value = "The least value 0 .. 255 of a WORD by which a STEP is not ALIKE to what it is in a ROOM. BAD.")
    private static void breaksOfFailing() {
        BuiltTwice x = new BuiltTwice();
        failsInRoom0(x);
        due("it would stand", 77, x.breaks(0, 2, 0));
        due("it would fail", 0, x.breaks(1, 2, 0));
        x.word(1, 0, 0);
        due("failing again", 77, x.breaks(1, 2, 0));
    }

    @Says(promise = 22, value = "The least value 0 .. 255 of a WORD by which a STEP is not ALIKE to what it is in a ROOM. BAD.")
    private static void breaksTakesARoomAStepAndAWord() {
        BuiltTwice x = stampsOfAllWords();
        dueRange("room", 0, 7, r -> x.breaks(r, 7, 0));
        dueRange("step", 0, 7, s -> x.breaks(0, s, 0));
        dueRange("word", 0, 7, w -> x.breaks(0, 7, w));
        x.word(0, 7, 3);
        x.breaks(0, 7, 7);
        due("the word stays", 3, x.word(0, 7, 3));
    }

    @Says(promise = 22, value = "NOT: none.")
    private static void breaksIsNotIfNoneDoes() {
        BuiltTwice x = stampsOfAllWords();
        due("a word that is not read", NOT, x.breaks(0, 6, 7));
        due("PACK of one input", NOT, x.breaks(0, stepOf(x, PACK, 0, 7, 0), 7));
        due("PICK by a 0", NOT, x.breaks(0, stepOf(x, PICK, 0, 7, STEP + 0, 0), 7));
        due("a step that fails", NOT, x.breaks(0, x.step(STAMP, 0, 7), 7));
        due("no room", BAD, x.breaks(8, 6, 7));
    }

    // ---- 23 rooms

    @Says("ROOMS for a STEP: the fewest ROOMS of a told set (mask) such that for each WORD that the STEP USES in ROOM 0 two of them have it unlike;")
    private static void roomsFromTwoToAllEight() {
        BuiltTwice x = eachRoomItsOwnWord();
        due("for word 0", 3, x.rooms(0, 255));
        for (int w = 1; w < 8; w++) {
            due("for words 0 to " + w, (2 << w) - 1, x.rooms(w, 255));
        }
        for (int r = 0; r < 8; r++) {
            due("for all words, without room " + r, NOT, x.rooms(7, 255 & ~(1 << r)));
        }
    }

    @Says("ROOMS for a STEP: the fewest ROOMS of a told set (mask) such that for each WORD that the STEP USES in ROOM 0 two of them have it unlike;")
    private static void roomsAreFewestThoughTheMaskIsGreater() {
        BuiltTwice x = eachRoomItsOwnWord();
        due("three rooms", 7, x.rooms(2, 255));
        for (int w = 0; w < 3; w++) {
            x.word(7, w, 2);
        }
        due("two rooms", 0x81, x.rooms(2, 255));
        due("three of those told", 7, x.rooms(2, 0x7F));
    }

    @Says("ROOMS for a STEP: the fewest ROOMS of a told set (mask) such that for each WORD that the STEP USES in ROOM 0 two of them have it unlike;")
    private static void roomsCountTheWordsUsedInRoom0() {
        BuiltTwice x = new BuiltTwice();
        failsInRoom0(x);
        due("word 5 is not used in room 0", 6, x.rooms(2, 0xFE));
        x.word(0, 0, 77);
        due("it is now", NOT, x.rooms(2, 0xFE));
        x.word(2, 5, 1);
        due("rooms 1 and 2", 6, x.rooms(2, 0xFE));
    }

    @Says("of several sets the least mask; none, if all of the told ones are not enough.")
    private static void roomsOfSeveralTheLeastMask() {
        BuiltTwice x = stampsOfAllWords();
        x.word(6, 0, 1);
        x.word(7, 0, 2);
        due("0 and 6 of all", 0x41, x.rooms(0, 255));
        due("5 and 6, 4 and 6, 5 and 7, 6 and 7", 0x50, x.rooms(0, 0xF0));
        due("6 and 7", 0xC0, x.rooms(0, 0xC0));
        due("one of them is not enough", NOT, x.rooms(0, 0x40));
        due("none of these", NOT, x.rooms(0, 0x3F));
        due("room 0 alone", NOT, x.rooms(0, 1));
    }

    @Says("(Without any WORD: one ROOM, the least one told.)")
    private static void roomsWithoutAWordIsOneRoom() {
        BuiltTwice x = withAAndB();
        int s = stepOf(x, JOIN, 0, 0, 0);
        int failing = x.step(STAMP, 0, 0);
        for (int r = 0; r < 8; r++) {
            due("just room " + r, 1 << r, x.rooms(s, 1 << r));
            due("room " + r + " and above", 1 << r, x.rooms(s, 255 & 255 << r));
            due("one that fails reads no word", 1 << r, x.rooms(failing, 255 & 255 << r));
        }
    }

    @Says(promise = 23, value = "ROOMS for a STEP of a set of them (1 .. 255): the mask. BAD. NOT: none.")
    private static void roomsTakesASetOf1To255() {
        BuiltTwice x = stampsOfAllWords();
        dueRange("set", 1, 255, set -> x.rooms(0, set));
        dueRange("step", 0, 7, s -> x.rooms(s, 255));
        due("none", NOT, x.rooms(0, 255));
        due("bad before not", BAD, x.rooms(0, 0));
    }
}
