/** The sentences ahead of the promises: texts, rooms, words, steps, tools, what fails, is read and is used. */
public final class TermsTest extends Bench {
    public static void main(String[] args) {
        runAll(TermsTest.class);
    }

    /** Text 0 has 60 bytes, text 1 has 20, text 2 one, text 3 none. */
    private static BuiltTwice withTexts() {
        BuiltTwice x = new BuiltTwice();
        for (int n : new int[] {60, 20, 1, 0}) {
            feedMany(x, n, 9);
            x.text();
        }
        return x;
    }

    private static BuiltTwice withWords(int word, int... values) {
        BuiltTwice x = new BuiltTwice();
        for (int room = 0; room < values.length; room++) {
            x.word(room, word, values[room]);
        }
        return x;
    }

    private static void dueFails(String what, BuiltTwice x, int step) {
        due(what + " makes", NOT, x.made(0, step));
    }

    // ---- for how many calls

    @Says("An object is used for at most 512 calls after it has been made; what later calls answer is free.")
    private static void theLastCallIsAnsweredAsTheFirstOne() {
        BuiltTwice x = new BuiltTwice();
        int calls = 0;
        for (int t = 0; t < 20; t++, calls += 2) {
            x.feed(4, 0x04030201);
            x.text();
        }
        for (int s = 0; s < 24; s++, calls += 5) {
            x.step(STAMP, 0, s % 8);
            for (int k = 0; k < 4; k++) {
                x.need(s, k == 0 && s > 0 ? STEP + s - 1 : 19);
            }
        }
        for (int w = 0; w < 8; w++, calls++) {
            x.word(7, w, 255 - w);
        }
        for (; calls < 510; calls++) {
            x.breaks(7, 11, calls % 8);
        }
        due("call 511", 17 + 11 * 13, x.made(7, 11));
        due("call 512", 255, x.fix(0, 7, 11));
    }

    // ---- texts

    @Says("19, as they were made: bytes, at most 60;")
    private static void textsAreNumberedFrom0To19() {
        BuiltTwice x = new BuiltTwice();
        int s = x.step(JOIN, 0, 0);
        for (int t = 0; t < 20; t++) {
            due("not there yet, " + t, BAD, x.write(t));
            x.feed(1, 100 + t);
            due("text " + t, t, x.text());
        }
        x.need(s, 0);
        x.need(s, 19);
        dueBytes("the first and the last", x, 0, s, 100, 119);
        due("21 there cannot be", FULL, x.text());
        due("text 20", BAD, x.write(20));
    }

    @Says("19, as they were made: bytes, at most 60;")
    private static void aTextHas0To60Bytes() {
        BuiltTwice x = new BuiltTwice();
        textOfLength(x, 60);
        x.text();
        dueBytes("60 bytes", x, 0, stepOf(x, JOIN, 0, 0, 0), upTo(60));
        dueBytes("no bytes", x, 0, stepOf(x, JOIN, 0, 0, 1));
        feedMany(x, 60, 1);
        due("61 there cannot be", FULL, x.feed(1, 0));
    }

    @Says("a TEXT may be LACKING (its bytes are kept for when it is not any more)")
    private static void bytesOfALackingTextAreKept() {
        BuiltTwice x = new BuiltTwice();
        textOfLength(x, 60);
        int s = stepOf(x, JOIN, 0, 0, 0);
        x.lack(0, 1);
        dueFails("what needs it", x, s);
        x.lack(0, 0);
        dueBytes("as it was", x, 0, s, upTo(60));
    }

    // ---- rooms and words

    @Says("ROOMS 0 .. 7 have eight WORDS 0 .. 7 (ints 0 .. 255; 0 at first).")
    private static void roomsAre0To7InEveryCall() {
        BuiltTwice x = new BuiltTwice();
        int s = stepOf(x, STAMP, 0, 0, textOf(x, "a"));
        dueRange("word, room", 0, 7, r -> x.word(r, 0, r & 7));
        dueRange("copy, from room", 0, 7, r -> x.copy(r, 3));
        dueRange("copy, to room", 0, 7, r -> x.copy(3, r));
        x.word(1, 0, 1);
        dueRange("made, room", 0, 7, r -> x.made(r, s));
        dueRange("at, room", 0, 7, r -> x.at(r, s, 0));
        dueRange("reads, room", 0, 7, r -> x.reads(r, s, 0));
        dueRange("built, room", 0, 7, x::built);
        dueRange("alike, first room", 0, 7, r -> x.alike(r, 1, s));
        dueRange("alike, second room", 0, 7, r -> x.alike(1, r, s));
        dueRange("changes, first room", 0, 7, r -> x.changes(r, 1, s));
        dueRange("changes, second room", 0, 7, r -> x.changes(1, r, s));
        dueRange("cause, first room", 0, 7, r -> x.cause(r, 1, s));
        dueRange("cause, second room", 0, 7, r -> x.cause(1, r, s));
        dueRange("fix, first room", 0, 7, r -> x.fix(r, 1, s));
        dueRange("fix, second room", 0, 7, r -> x.fix(1, r, s));
        dueRange("stable, room", 0, 7, r -> x.stable(r, s, 0, 0));
        dueRange("breaks, room", 0, 7, r -> x.breaks(r, s, 0));
    }

    @Says("ROOMS 0 .. 7 have eight WORDS 0 .. 7 (ints 0 .. 255; 0 at first).")
    private static void wordsAre0To7InEveryCall() {
        BuiltTwice x = new BuiltTwice();
        int s = stepOf(x, STAMP, 0, 7, textOf(x, "a"));
        dueRange("word", 0, 7, w -> x.word(0, w, 0));
        dueRange("stable, word", 0, 7, w -> x.stable(0, s, w, 0));
        dueRange("breaks, word", 0, 7, w -> x.breaks(0, s, w));
        dueRange("step, b", 0, 7, b -> x.step(STAMP, 0, b));
        due("word 7 is read", 128, x.reads(0, s, 0));
        due("word 7 breaks it", 1, x.breaks(0, s, 7));
    }

    @Says("ROOMS 0 .. 7 have eight WORDS 0 .. 7 (ints 0 .. 255; 0 at first).")
    private static void aWordIs0To255() {
        BuiltTwice x = new BuiltTwice();
        dueRange("word, v", 0, 255, v -> x.word(0, 0, v));
        due("the last one taken stays", 255, x.word(0, 0, 0));
        int s = stepOf(x, STAMP, 0, 0, textOf(x));
        dueBytes("0", x, 0, s, 0);
        x.word(0, 0, 255);
        dueBytes("255", x, 0, s, 255);
    }

    @Says("ROOMS 0 .. 7 have eight WORDS 0 .. 7 (ints 0 .. 255; 0 at first).")
    private static void eachOfThe64WordsIsItsOwn() {
        BuiltTwice x = new BuiltTwice();
        for (int i = 0; i < 64; i++) {
            due("at first", 0, x.word(i / 8, i % 8, i + 1));
        }
        for (int i = 0; i < 64; i++) {
            due("then", i + 1, x.word(i / 8, i % 8, 0));
        }
    }

    // ---- steps

    @Says("STEPS 0 .. 23, as they were made: a TOOL, numbers a (0 .. 255) and b (0 .. 7), and INPUTS,")
    private static void stepsAre0To23InEveryCall() {
        BuiltTwice x = new BuiltTwice();
        textOf(x, "a");
        for (int s = 0; s < 24; s++) {
            due("step " + s, s, stepOf(x, STAMP, 0, 0, 0));
        }
        due("24 there are", FULL, x.step(STAMP, 0, 0));
        dueRange("need, step", 0, 23, s -> x.need(s, 0));
        dueRange("made, step", 0, 23, s -> x.made(0, s));
        dueRange("at, step", 0, 23, s -> x.at(0, s, 0));
        dueRange("reads, step", 0, 23, s -> x.reads(0, s, 0));
        dueRange("uses, step", 0, 23, s -> x.uses(s, 0));
        dueRange("orders, step", 0, 23, x::orders);
        dueRange("alike, step", 0, 23, s -> x.alike(0, 1, s));
        dueRange("changes, step", 0, 23, s -> x.changes(0, 1, s));
        dueRange("cause, step", 0, 23, s -> x.cause(0, 1, s));
        dueRange("fix, step", 0, 23, s -> x.fix(0, 1, s));
        dueRange("stable, step", 0, 23, s -> x.stable(0, s, 0, 0));
        dueRange("breaks, step", 0, 23, s -> x.breaks(0, s, 0));
        dueRange("rooms, step", 0, 23, s -> x.rooms(s, 1));
    }

    @Says("STEPS 0 .. 23, as they were made: a TOOL, numbers a (0 .. 255) and b (0 .. 7), and INPUTS,")
    private static void aStepThatIsNotMadeYetIsNone() {
        BuiltTwice x = new BuiltTwice();
        textOf(x, "a");
        for (int n = 0; n < 3; n++) {
            due("need", BAD, x.need(n, 0));
            due("made", BAD, x.made(0, n));
            due("at", BAD, x.at(0, n, 0));
            due("reads", BAD, x.reads(0, n, 0));
            due("uses", BAD, x.uses(n, 0));
            due("orders", BAD, x.orders(n));
            due("alike", BAD, x.alike(0, 0, n));
            due("changes", BAD, x.changes(0, 0, n));
            due("cause", BAD, x.cause(0, 0, n));
            due("fix", BAD, x.fix(0, 0, n));
            due("stable", BAD, x.stable(0, n, 0, 0));
            due("breaks", BAD, x.breaks(0, n, 0));
            due("rooms", BAD, x.rooms(n, 255));
            due("step", n, x.step(JOIN, 0, 0));
        }
    }

    @Says("STEPS 0 .. 23, as they were made: a TOOL, numbers a (0 .. 255) and b (0 .. 7), and INPUTS,")
    private static void numbersOfAStepAreTakenToTheirEnds() {
        BuiltTwice x = new BuiltTwice();
        dueRange("tool", 0, 7, tool -> x.step(tool, 0, 0));
        dueRange("a", 0, 255, a -> x.step(JOIN, a, 0));
        dueRange("b", 0, 7, b -> x.step(JOIN, 0, b));
        due("just those taken are there", 6, x.count(1));
    }

    @Says("at most four, in their order: TEXTS, or STEPS of lesser numbers (one may come twice).")
    private static void aStepHasUpToFourInputs() {
        BuiltTwice x = new BuiltTwice();
        int[] texts = {textOf(x, 1), textOf(x, 2), textOf(x, 3), textOf(x, 4)};
        int s = x.step(JOIN, 0, 0);
        dueFails("with none", x, s);
        for (int k = 0; k < 4; k++) {
            due("input " + k, k + 1, x.need(s, texts[3 - k]));
        }
        due("a fifth one", FULL, x.need(s, texts[0]));
        dueBytes("in their order", x, 0, s, 4, 3, 2, 1);
    }

    @Says("at most four, in their order: TEXTS, or STEPS of lesser numbers (one may come twice).")
    private static void anInputStepHasALesserNumber() {
        BuiltTwice x = new BuiltTwice();
        for (int s = 0; s < 24; s++) {
            x.step(JOIN, 0, 0);
        }
        due("step 0 has no lesser one", BAD, x.need(0, STEP + 0));
        due("itself", BAD, x.need(23, STEP + 23));
        due("a greater one", BAD, x.need(22, STEP + 23));
        due("one that is none", BAD, x.need(23, STEP + 24));
        due("the next lesser one", 1, x.need(23, STEP + 22));
        due("the least one", 2, x.need(23, STEP + 0));
        due("the least one, of step 1", 1, x.need(1, STEP + 0));
    }

    @Says("at most four, in their order: TEXTS, or STEPS of lesser numbers (one may come twice).")
    private static void oneInputMayComeFourTimes() {
        BuiltTwice x = new BuiltTwice();
        int t = textOf(x, 5, 6);
        int s = x.step(JOIN, 0, 0);
        for (int k = 1; k <= 4; k++) {
            due("a text again", k, x.need(s, t));
        }
        dueBytes("a text four times", x, 0, s, 5, 6, 5, 6, 5, 6, 5, 6);
        int above = x.step(JOIN, 0, 0);
        for (int k = 1; k <= 4; k++) {
            due("a step again", k, x.need(above, STEP + s));
        }
        due("a step four times", 32, x.made(0, above));
        due("used once", 3, x.uses(above, 0));
    }

    // ---- what fails

    @Says("it FAILS if an INPUT FAILED or is LACKING, if it has none,")
    private static void everyToolFailsIfAnInputFailed() {
        BuiltTwice x = withTexts();
        int failed = x.step(JOIN, 0, 0);
        for (int tool = JOIN; tool <= SIGN; tool++) {
            dueFails("failed first, tool " + tool, x, stepOf(x, tool, 0, 0, STEP + failed, 2));
            dueFails("failed last, tool " + tool, x, stepOf(x, tool, 1, 0, 2, STEP + failed));
        }
    }

    @Says("it FAILS if an INPUT FAILED or is LACKING, if it has none,")
    private static void everyToolFailsIfAnInputLacks() {
        BuiltTwice x = withTexts();
        x.lack(3, 1);
        for (int tool = JOIN; tool <= SIGN; tool++) {
            dueFails("lacking first, tool " + tool, x, stepOf(x, tool, 0, 0, 3, 2));
            dueFails("lacking between, tool " + tool, x, stepOf(x, tool, 1, 0, 2, 3, 2));
            dueFails("lacking last, tool " + tool, x, stepOf(x, tool, 1, 0, 2, 3));
        }
    }

    @Says("it FAILS if an INPUT FAILED or is LACKING, if it has none,")
    private static void everyToolFailsWithoutInputs() {
        BuiltTwice x = withTexts();
        for (int tool = JOIN; tool <= SIGN; tool++) {
            int s = x.step(tool, 0, 0);
            dueFails("without inputs, tool " + tool, x, s);
            x.need(s, 3);
            int want = tool == SIGN ? 4 : tool == STAMP ? 1 : 0;
            due("an empty text is an input, tool " + tool, want, x.made(0, s));
        }
    }

    @Says("it FAILS if an INPUT FAILED or is LACKING, if it has none,")
    private static void failingGoesUpThroughAllSteps() {
        BuiltTwice x = withTexts();
        int s = stepOf(x, JOIN, 0, 0, 2);
        for (int k = 1; k < 24; k++) {
            s = stepOf(x, JOIN, 0, 0, STEP + s);
        }
        due("24 in a row", 1, x.made(0, s));
        due("all of them", 24, x.built(0));
        x.lack(2, 1);
        dueFails("the last one, the first one's text lacking", x, s);
        due("none of them", 0, x.built(0));
    }

    @Says("or if the JOIN of its INPUTS is more than 200 bytes, whatever is made of that")
    private static void a200BytesJoinIsTakenByAllButStamp() {
        BuiltTwice x = withTexts();
        int[] want = {200, NOT, 200, 0, 200, 20, 200, 4};
        x.word(0, 0, 255);
        for (int tool = JOIN; tool <= SIGN; tool++) {
            due("200 bytes, tool " + tool, want[tool], x.made(0, stepOf(x, tool, 9, 0, 0, 0, 0, 1)));
        }
    }

    @Says("or if the JOIN of its INPUTS is more than 200 bytes, whatever is made of that")
    private static void a201BytesJoinFailsByAllButPick() {
        BuiltTwice x = withTexts();
        int most = stepOf(x, JOIN, 0, 0, 0, 0, 0, 1);
        for (int tool = JOIN; tool <= SIGN; tool++) {
            int want = tool == PICK ? 1 : NOT;
            due("201 bytes, tool " + tool, want, x.made(0, stepOf(x, tool, 9, 1, STEP + most, 2)) == NOT ? NOT : 1);
        }
        int pack = stepOf(x, PACK, 0, 0, 2, STEP + most);
        x.word(0, 0, 1);
        dueFails("PACK from the last one", x, pack);
        dueFails("four times 200", x, stepOf(x, SIGN, 0, 0, STEP, STEP, STEP, STEP));
    }

    @Says("(of STAMP, with its byte; of PICK just what it picks counts)")
    private static void stampHas199BytesAndItsOwn() {
        BuiltTwice x = withTexts();
        feedMany(x, 19, 9);
        int nineteen = x.text();
        int s = stepOf(x, STAMP, 0, 0, 0, 0, 0, nineteen);
        x.word(0, 0, 77);
        due("199 and its byte", 200, x.made(0, s));
        due("its byte", 77, x.at(0, s, 199));
        feedMany(x, 20, 9);
        x.write(nineteen);
        dueFails("200 and its byte", x, s);
    }

    @Says("(of STAMP, with its byte; of PICK just what it picks counts)")
    private static void pickMayHaveFourTimes200Bytes() {
        BuiltTwice x = withTexts();
        stepOf(x, JOIN, 0, 0, 0, 0, 0, 1);
        stepOf(x, MASK, 1, 0, STEP);
        int s = stepOf(x, PICK, 1, 0, STEP + 0, STEP + 0, STEP + 0, STEP + 1);
        due("the first one", 200, x.made(0, s));
        due("its byte", 9, x.at(0, s, 199));
        x.word(0, 0, 1);
        due("the last one", 200, x.made(0, s));
        due("its byte", 8, x.at(0, s, 199));
    }

    // ---- tools

    @Says("0 JOIN: all INPUTS one behind the other.")
    private static void joinOfOneOfFourAndOfEmptyOnes() {
        BuiltTwice x = new BuiltTwice();
        textOf(x, 1, 2);
        textOf(x);
        textOf(x, 3);
        dueBytes("one", x, 0, stepOf(x, JOIN, 255, 7, 0), 1, 2);
        dueBytes("four", x, 0, stepOf(x, JOIN, 1, 0, 2, 1, 0, 2), 3, 1, 2, 3);
        dueBytes("empty ones", x, 0, stepOf(x, JOIN, 0, 0, 1, 1, 1, 1));
    }

    @Says("1 STAMP: JOIN, and a byte: WORD b.")
    private static void stampOfEachEnd() {
        BuiltTwice x = withWords(7, 0, 255, 128);
        textOf(x);
        textOf(x, 1, 2);
        dueBytes("of nothing", x, 0, stepOf(x, STAMP, 0, 7, 0), 0);
        int s = stepOf(x, STAMP, 0, 7, 1, 1);
        dueBytes("255", x, 1, s, 1, 2, 1, 2, 255);
        dueBytes("128", x, 2, s, 1, 2, 1, 2, 128);
        dueBytes("word 0, not 7", x, 1, stepOf(x, STAMP, 0, 0, 1), 1, 2, 0);
    }

    @Says("in the order of INPUTS if WORD b is even, from the last one to the first one if it is odd.")
    private static void packByEvenAndOdd() {
        BuiltTwice x = withWords(2, 0, 1, 254, 255);
        textOf(x, 1, 2);
        textOf(x, 3);
        textOf(x, 4, 5);
        int s = stepOf(x, PACK, 0, 2, 0, 1, 2);
        dueBytes("0", x, 0, s, 1, 2, 3, 4, 5);
        dueBytes("1", x, 1, s, 4, 5, 3, 1, 2);
        dueBytes("254", x, 2, s, 1, 2, 3, 4, 5);
        dueBytes("255", x, 3, s, 4, 5, 3, 1, 2);
        dueBytes("one input, odd", x, 1, stepOf(x, PACK, 0, 2, 0), 1, 2);
        dueBytes("four inputs, odd", x, 1, stepOf(x, PACK, 0, 2, 0, 1, 1, 2), 4, 5, 3, 3, 1, 2);
    }

    @Says("3 STRIP: JOIN without all bytes that are a.")
    private static void stripOfAllOfNoneAndOfEnds() {
        BuiltTwice x = new BuiltTwice();
        textOf(x, 0, 255, 0, 128);
        textOf(x, 0, 0);
        dueBytes("0", x, 0, stepOf(x, STRIP, 0, 0, 0), 255, 128);
        dueBytes("255", x, 0, stepOf(x, STRIP, 255, 0, 0), 0, 0, 128);
        dueBytes("all", x, 0, stepOf(x, STRIP, 0, 0, 1, 1));
        dueBytes("none", x, 0, stepOf(x, STRIP, 1, 0, 0), 0, 255, 0, 128);
        dueBytes("over two inputs", x, 0, stepOf(x, STRIP, 128, 0, 0, 0), 0, 255, 0, 0, 255, 0);
    }

    @Says("4 MASK: each byte of JOIN exclusive-or a.")
    private static void maskBy0AndBy255() {
        BuiltTwice x = new BuiltTwice();
        textOf(x, 0, 255, 128);
        textOf(x);
        dueBytes("0", x, 0, stepOf(x, MASK, 0, 0, 0), 0, 255, 128);
        dueBytes("255", x, 0, stepOf(x, MASK, 255, 0, 0), 255, 0, 127);
        dueBytes("129, twice", x, 0, stepOf(x, MASK, 129, 0, 0, 0), 129, 126, 1, 129, 126, 1);
        dueBytes("of nothing", x, 0, stepOf(x, MASK, 255, 0, 1));
    }

    @Says("5 PICK: the first INPUT if WORD b is less than a, else the last one.")
    private static void pickAroundA() {
        BuiltTwice x = withWords(4, 0, 99, 100, 101, 254, 255);
        textOf(x, 1);
        textOf(x, 2);
        textOf(x, 3);
        int s = stepOf(x, PICK, 100, 4, 0, 1, 1, 2);
        int[] want = {1, 1, 3, 3, 3, 3};
        int never = stepOf(x, PICK, 0, 4, 0, 2);
        int almost = stepOf(x, PICK, 255, 4, 0, 2);
        for (int room = 0; room < 6; room++) {
            dueBytes("a 100, room " + room, x, room, s, want[room]);
            dueBytes("a 0, room " + room, x, room, never, 3);
            dueBytes("a 255, room " + room, x, room, almost, room < 5 ? 1 : 3);
        }
        int one = stepOf(x, PICK, 100, 4, 1);
        dueBytes("one input, less", x, 1, one, 2);
        dueBytes("one input, not less", x, 2, one, 2);
    }

    @Says("6 SORT: all bytes of JOIN, rising (as 0 .. 255).")
    private static void sortFrom0To255() {
        BuiltTwice x = new BuiltTwice();
        textOf(x, 255, 128, 127, 0, 1);
        textOf(x, 128, 0, 255);
        textOf(x);
        dueBytes("one", x, 0, stepOf(x, SORT, 0, 0, 0), 0, 1, 127, 128, 255);
        dueBytes("over two inputs", x, 0, stepOf(x, SORT, 0, 0, 0, 1), 0, 0, 1, 127, 128, 128, 255, 255);
        dueBytes("nothing", x, 0, stepOf(x, SORT, 0, 0, 2));
    }

    @Says("7 SIGN: four bytes, the highest first, of h: h is 40503 at first;")
    private static void signOfNothingIsThe40503OfTheBeginning() {
        BuiltTwice x = new BuiltTwice();
        dueBytes("40503", x, 0, stepOf(x, SIGN, 0, 0, textOf(x)), 0, 0, 158, 55);
    }

    @Says("for each byte v of JOIN: h becomes (h ^ v) * 16777619, an int.")
    private static void signWrapsAroundAsAnInt() {
        BuiltTwice x = new BuiltTwice();
        textOf(x, 200);
        // 0x9E37 ^ 200 is 0x9EFF; times 0x01000193 it is 0x9EFFFA4B6D, of which an int has the lower 32 bits
        dueBytes("one byte", x, 0, stepOf(x, SIGN, 0, 0, 0), 0xFF, 0xFA, 0x4B, 0x6D);
        int[] bytes = {255, 0, 128, 55};
        long h = 40503;
        for (int v : bytes) {
            h = (h ^ v) * 16777619L & 0xFFFFFFFFL;
        }
        dueBytes("four bytes", x, 0, stepOf(x, SIGN, 0, 0, textOf(x, bytes)),
            (int) (h >> 24), (int) (h >> 16 & 255), (int) (h >> 8 & 255), (int) (h & 255));
    }

    // ---- what is read and used

    @Says("READ: a STEP that does not FAIL reads all its INPUTS; STAMP, PACK, PICK also WORD b.")
    private static void justThreeToolsReadTheirWord() {
        BuiltTwice x = withTexts();
        for (int tool = JOIN; tool <= SIGN; tool++) {
            int want = tool == STAMP || tool == PACK || tool == PICK ? 128 : 0;
            due("tool " + tool, want, x.reads(0, stepOf(x, tool, 0, 7, 2), 0));
            due("tool " + tool + ", word 0", want == 0 ? 0 : 1, x.reads(0, stepOf(x, tool, 0, 0, 2), 0));
        }
    }

    @Says("READ: a STEP that does not FAIL reads all its INPUTS; STAMP, PACK, PICK also WORD b.")
    private static void aWordIsReadThoughNothingHangsOnIt() {
        BuiltTwice x = withTexts();
        due("PACK of one input", 8, x.reads(0, stepOf(x, PACK, 0, 3, 2), 0));
        due("PICK of one input", 8, x.reads(0, stepOf(x, PICK, 0, 3, 2), 0));
        due("PICK by a 0", 8, x.reads(0, stepOf(x, PICK, 0, 3, 2, 0), 0));
    }

    @Says("(One that FAILS reads nothing.)")
    private static void aStepThatFailsReadsNoWord() {
        BuiltTwice x = withTexts();
        int none = x.step(STAMP, 0, 1);
        int failed = stepOf(x, STAMP, 0, 2, STEP + none);
        int lacking = stepOf(x, PACK, 0, 3, 1);
        int tooLong = stepOf(x, STAMP, 0, 4, 0, 0, 0, 1);
        int longAsPack = stepOf(x, PACK, 0, 4, 0, 0, 0, 0);
        due("not lacking yet", 8, x.reads(0, lacking, 0));
        due("too long", 0, x.reads(0, tooLong, 0));
        x.lack(1, 1);
        due("without inputs", 0, x.reads(0, none, 0));
        due("an input failed", 0, x.reads(0, failed, 0));
        due("an input lacks", 0, x.reads(0, lacking, 0));
        due("240 bytes", 0, x.reads(0, longAsPack, 0));
    }

    @Says("USED by a STEP: it, its INPUTS, theirs, and so on;")
    private static void usedGoesAllTheWayDown() {
        BuiltTwice x = withTexts();
        int s = stepOf(x, JOIN, 0, 0, 3);
        for (int k = 1; k < 24; k++) {
            s = stepOf(x, JOIN, 0, 0, STEP + s, k == 23 ? 2 : 3);
        }
        due("by the last of 24", (1 << 24) - 1, x.uses(23, 0));
        due("by the first of 24", 1, x.uses(0, 0));
        due("by one between", (1 << 13) - 1, x.uses(12, 0));
        due("texts", 12, x.uses(23, 1));
        due("texts ahead of the last", 8, x.uses(22, 1));
    }

    @Says("of WORDS: those that STEPS which it USES read in a ROOM (and itself).")
    private static void wordsUsedAreOfThoseThatDoNotFailThere() {
        BuiltTwice x = new BuiltTwice();
        failsInRoom0(x);
        due("in room 0, where it fails", 1, x.reads(0, 2, 1));
        due("in room 1", 33, x.reads(1, 2, 1));
        due("itself, in room 1", 32, x.reads(1, 2, 0));
        x.step(STAMP, 0, 7);
        int above = stepOf(x, JOIN, 0, 0, STEP + 2, STEP + 3);
        due("it fails, some that it uses do not", 33, x.reads(1, above, 1));
        due("more of them fail", 1, x.reads(0, above, 1));
    }

    @Says("of WORDS: those that STEPS which it USES read in a ROOM (and itself).")
    private static void allEightWordsMayBeUsed() {
        BuiltTwice x = withTexts();
        int s = stepOf(x, STAMP, 0, 0, 2);
        for (int w = 1; w < 8; w++) {
            s = stepOf(x, w % 2 == 0 ? PACK : PICK, 1, w, STEP + s);
        }
        due("all", 255, x.reads(7, s, 1));
        due("one less", 127, x.reads(7, s - 1, 1));
        due("none", 0, x.reads(7, stepOf(x, JOIN, 0, 7, 2), 1));
    }
}
