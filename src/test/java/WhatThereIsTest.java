import java.util.function.IntToLongFunction;

/** Promises 1 to 9: a new object, texts, words and steps. */
public final class WhatThereIsTest extends Bench {
    public static void main(String[] args) {
        runAll(WhatThereIsTest.class);
    }

    private static BuiltTwice withTape(int n) {
        BuiltTwice x = new BuiltTwice();
        feedMany(x, n, 7);
        return x;
    }

    /** Text t has the one byte 10 + t. */
    private static BuiltTwice withTexts(int n) {
        BuiltTwice x = new BuiltTwice();
        for (int t = 0; t < n; t++) {
            textOf(x, 10 + t);
        }
        return x;
    }

    private static BuiltTwice withSteps(int n) {
        BuiltTwice x = withTexts(1);
        for (int s = 0; s < n; s++) {
            x.step(JOIN, 0, 0);
        }
        return x;
    }

    // ---- 1 a new object

    @Says(promise = 1, value = "No texts, no steps; all words 0; all makers are seeds, none forged.")
    private static void aNewObjectHasNoTexts() {
        BuiltTwice x = new BuiltTwice();
        due("texts", 0, x.count(0));
        due("text 0", BAD, x.write(0));
        due("text 0 is not lacking", BAD, x.lack(0, 1));
        due("none lacks", 0, x.count(5));
        due("no bytes on the tape", 0, x.count(4));
        x.step(JOIN, 0, 0);
        due("no input", BAD, x.need(0, 0));
        due("no maker by it", BAD, x.maker(0, 1, 0));
    }

    @Says(promise = 1, value = "No texts, no steps; all words 0; all makers are seeds, none forged.")
    private static void aNewObjectHasNoSteps() {
        BuiltTwice x = new BuiltTwice();
        due("steps", 0, x.count(1));
        due("step 0", BAD, x.made(0, 0));
        for (int room = 0; room < 8; room++) {
            due("built", 0, x.built(room));
        }
        due("its changes", BAD, x.change(0, 0));
    }

    @Says(promise = 1, value = "No texts, no steps; all words 0; all makers are seeds, none forged.")
    private static void aNewObjectHasWords0() {
        BuiltTwice x = new BuiltTwice();
        for (int i = 0; i < 64; i++) {
            due("word " + i, 0, x.word(i / 8, i % 8, 1));
        }
    }

    @Says(promise = 1, value = "No texts, no steps; all words 0; all makers are seeds, none forged.")
    private static void aNewObjectHasSeedsNoneForged() {
        BuiltTwice x = new BuiltTwice();
        due("seeds", 30, x.count(2));
        due("forged", 0, x.count(3));
        for (int m = 0; m < 30; m++) {
            due("down", 0, x.down(m));
            due("ring", NOT, x.ring(m, 0));
            due("needs", 0, x.needs(m, 0));
            due("trust", 1, x.trust(m));
            due("heirs", 0, x.heirs(m));
            due("forged", 0, x.forge(m, 1));
        }
    }

    @Says(promise = 1, value = "No texts, no steps; all words 0; all makers are seeds, none forged.")
    private static void aNewObjectHasNothingOfAnother() {
        BuiltTwice other = withTexts(3);
        other.step(JOIN, 0, 0);
        other.word(0, 0, 9);
        other.forge(0, 1);
        other.maker(1, 2, 0);
        other.feed(4, 1);
        BuiltTwice x = new BuiltTwice();
        for (int what = 0; what <= 5; what++) {
            due("count " + what, what == 2 ? 30 : 0, x.count(what));
        }
        due("word", 0, x.word(0, 0, 3));
        due("the other's stays", 9, other.word(0, 0, 9));
        due("the other's texts stay", 3, other.count(0));
    }

    // ---- 2 feed

    @Says(promise = 2, value = "n (1 .. 4) bytes come to THE TAPE (at most 60), the lowest of v first: how many it has.")
    private static void feedTakes1To4Bytes() {
        BuiltTwice x = new BuiltTwice();
        dueRange("n", 1, 4, n -> x.feed(n, 0));
        due("one and four came", 5, x.count(4));
        for (int n = 1; n <= 4; n++) {
            due("n " + n, n, new BuiltTwice().feed(n, -1));
        }
    }

    @Says(promise = 2, value = "n (1 .. 4) bytes come to THE TAPE (at most 60), the lowest of v first: how many it has.")
    private static void feedPutsTheLowestByteFirst() {
        BuiltTwice x = new BuiltTwice();
        x.feed(4, 0x80FF7F01);
        x.feed(3, 0x11223344);
        x.feed(2, -2);
        x.feed(1, 256);
        x.feed(4, MIN);
        dueBytes("bytes", x, 0, stepOf(x, JOIN, 0, 0, x.text()),
            1, 0x7F, 0xFF, 0x80, 0x44, 0x33, 0x22, 0xFE, 0xFF, 0, 0, 0, 0, 0x80);
    }

    @Says(promise = 2, value = "n (1 .. 4) bytes come to THE TAPE (at most 60), the lowest of v first: how many it has.")
    private static void feedFillsTheTapeTo60() {
        for (int n = 1; n <= 4; n++) {
            BuiltTwice x = new BuiltTwice();
            for (int have = n; have <= 60; have += n) {
                due("by " + n, have, x.feed(n, 0));
            }
            due("more by " + n, FULL, x.feed(n, 0));
            due("60 there are", 60, x.count(4));
        }
    }

    @Says(promise = 2, value = "BAD, FULL.")
    private static void feedIsFullAheadOf61() {
        for (int n = 1; n <= 4; n++) {
            due("to 60 by " + n, 60, withTape(60 - n).feed(n, 0));
            due("to 61 by " + n, FULL, withTape(61 - n).feed(n, 0));
        }
    }

    @Says(promise = 2, value = "BAD, FULL.")
    private static void feedThatIsFullPutsNoByteOfAll() {
        BuiltTwice x = withTape(57);
        due("four", FULL, x.feed(4, 0x01020304));
        due("57 there are", 57, x.count(4));
        due("three", 60, x.feed(3, 0x0A0B0C));
        int s = stepOf(x, JOIN, 0, 0, x.text());
        due("the 57th", 7, x.at(0, s, 56));
        due("the 58th", 0x0C, x.at(0, s, 57));
        due("the 60th", 0x0A, x.at(0, s, 59));
    }

    @Says(promise = 2, value = "BAD, FULL.")
    private static void feedIsBadBeforeItIsFull() {
        BuiltTwice x = withTape(60);
        for (int n : new int[] {0, 5, -1, MIN, MAX}) {
            due("n " + n, BAD, x.feed(n, 0));
        }
        due("n 1", FULL, x.feed(1, 0));
    }

    // ---- 3 text

    @Says(promise = 3, value = "THE TAPE becomes a TEXT, and is empty then: its number.")
    private static void textTakesTheWholeTape() {
        for (int n : new int[] {0, 1, 60}) {
            BuiltTwice x = withTape(n);
            due("number", 0, x.text());
            due("tape behind it", 0, x.count(4));
            due("length", n, x.made(0, stepOf(x, JOIN, 0, 0, 0)));
            due("tape from its beginning", 1, x.feed(1, 0));
            due("next number", 1, x.text());
        }
    }

    @Says(promise = 3, value = "THE TAPE becomes a TEXT, and is empty then: its number.")
    private static void textStaysAsTheTapeGoesOn() {
        BuiltTwice x = new BuiltTwice();
        textOf(x, 1, 2, 3);
        feedAll(x, 8, 9);
        dueBytes("text 0", x, 0, stepOf(x, JOIN, 0, 0, 0), 1, 2, 3);
    }

    @Says(promise = 3, value = "FULL: there are 20 (THE TAPE stays).")
    private static void textIsFullAt20() {
        BuiltTwice x = withTexts(19);
        due("the 20th", 19, x.text());
        feedAll(x, 1, 2, 3);
        due("the 21st", FULL, x.text());
        due("20 there are", 20, x.count(0));
        due("the tape has", 3, x.count(4));
        due("the tape goes on", 4, x.feed(1, 4));
        due("the tape is still good", 4, x.write(19));
        dueBytes("its bytes", x, 0, stepOf(x, JOIN, 0, 0, 19), 1, 2, 3, 4);
    }

    @Says(promise = 3, value = "FULL: there are 20 (THE TAPE stays).")
    private static void textIsFullAt20WithAnEmptyTapeToo() {
        BuiltTwice x = withTexts(20);
        due("the 21st", FULL, x.text());
        due("20 there are", 20, x.count(0));
    }

    // ---- 4 write

    @Says(promise = 4, value = "THE TAPE becomes the bytes of a TEXT that there is, and is empty then: how many. BAD.")
    private static void writeTakesATextThatThereIs() {
        BuiltTwice none = withTape(2);
        due("none there is", BAD, none.write(0));
        BuiltTwice x = withTexts(3);
        dueRange("text", 0, 2, x::write);
        BuiltTwice full = withTexts(20);
        dueRange("text of 20", 0, 19, full::write);
    }

    @Says(promise = 4, value = "THE TAPE becomes the bytes of a TEXT that there is, and is empty then: how many. BAD.")
    private static void writeOf0AndOf60Bytes() {
        BuiltTwice x = withTexts(2);
        int s = stepOf(x, JOIN, 0, 0, 1);
        feedAll(x, upTo(60));
        due("60", 60, x.write(1));
        due("tape behind it", 0, x.count(4));
        dueBytes("60 bytes", x, 0, s, upTo(60));
        due("0", 0, x.write(1));
        dueBytes("0 bytes", x, 0, s);
        dueBytes("the other text", x, 0, stepOf(x, JOIN, 0, 0, 0), 10);
        due("as many texts", 2, x.count(0));
    }

    @Says(promise = 4, value = "THE TAPE becomes the bytes of a TEXT that there is, and is empty then: how many. BAD.")
    private static void writeThatIsBadKeepsTheTape() {
        BuiltTwice x = withTexts(1);
        feedAll(x, 5, 6);
        due("text 1", BAD, x.write(1));
        due("text -1", BAD, x.write(-1));
        due("the tape has", 2, x.count(4));
        due("then", 2, x.write(0));
        dueBytes("its bytes", x, 0, stepOf(x, JOIN, 0, 0, 0), 5, 6);
    }

    @Says(promise = 4, value = "THE TAPE becomes the bytes of a TEXT that there is, and is empty then: how many. BAD.")
    private static void writeToALackingTextLeavesItLacking() {
        BuiltTwice x = withTexts(1);
        int s = stepOf(x, JOIN, 0, 0, 0);
        x.lack(0, 1);
        feedAll(x, 5, 6);
        due("written", 2, x.write(0));
        due("still lacking", NOT, x.made(0, s));
        due("what it was", 1, x.lack(0, 0));
        dueBytes("the new bytes", x, 0, s, 5, 6);
    }

    // ---- 5 lack

    @Says(promise = 5, value = "A TEXT is LACKING (1) or not (0): what it was. BAD.")
    private static void lackAnswersWhatItWas() {
        BuiltTwice x = withTexts(2);
        due("at first", 0, x.lack(1, 0));
        due("to 1", 0, x.lack(1, 1));
        due("1 to 1", 1, x.lack(1, 1));
        due("to 0", 1, x.lack(1, 0));
        due("0 to 0", 0, x.lack(1, 0));
    }

    @Says(promise = 5, value = "A TEXT is LACKING (1) or not (0): what it was. BAD.")
    private static void lackTakes0And1OfATextThatThereIs() {
        BuiltTwice x = withTexts(3);
        dueRange("is", 0, 1, is -> x.lack(0, is));
        dueRange("text", 0, 2, t -> x.lack(t, 1));
        due("those told", 2, x.count(5));
        due("the one between", 0, x.lack(1, 0));
    }

    @Says(promise = 5, value = "A TEXT is LACKING (1) or not (0): what it was. BAD.")
    private static void all20TextsMayLack() {
        BuiltTwice x = withTexts(20);
        for (int t = 0; t < 20; t++) {
            due("text " + t, 0, x.lack(t, 1));
            due("so many lack", t + 1, x.count(5));
        }
        due("text 19 no more", 1, x.lack(19, 0));
        due("19 lack", 19, x.count(5));
    }

    // ---- 6 word

    @Says(promise = 6, value = "A WORD of a ROOM becomes v: what it was. BAD.")
    private static void wordAnswersWhatItWas() {
        BuiltTwice x = new BuiltTwice();
        due("to 255", 0, x.word(7, 7, 255));
        due("to 0", 255, x.word(7, 7, 0));
        due("to 0 again", 0, x.word(7, 7, 0));
        due("the first of all", 0, x.word(0, 0, 1));
    }

    @Says(promise = 6, value = "A WORD of a ROOM becomes v: what it was. BAD.")
    private static void wordThatIsBadStaysAsItIs() {
        BuiltTwice x = new BuiltTwice();
        x.word(3, 4, 5);
        for (int v : new int[] {-1, 256, MIN, MAX}) {
            due("v " + v, BAD, x.word(3, 4, v));
        }
        due("word 8", BAD, x.word(3, 8, 6));
        due("room 8", BAD, x.word(8, 4, 6));
        due("it is still", 5, x.word(3, 4, 0));
        due("the next room's first", 0, x.word(4, 0, 0));
    }

    // ---- 7 copy

    @Says(promise = 7, value = "All WORDS of ROOM q become those of ROOM p: how many became other. BAD.")
    private static void copyOfNoneOfOneAndOfAllWords() {
        BuiltTwice x = new BuiltTwice();
        due("none", 0, x.copy(0, 7));
        x.word(0, 7, 255);
        due("one", 1, x.copy(0, 7));
        for (int w = 0; w < 8; w++) {
            x.word(7, w, 10 + w);
        }
        due("all", 8, x.copy(7, 0));
        for (int w = 0; w < 8; w++) {
            due("word " + w, 10 + w, x.word(0, w, 0));
            due("the room it came from", 10 + w, x.word(7, w, 1));
        }
    }

    @Says(promise = 7, value = "All WORDS of ROOM q become those of ROOM p: how many became other. BAD.")
    private static void copyToItselfChangesNothing() {
        BuiltTwice x = new BuiltTwice();
        x.word(2, 3, 4);
        due("copy", 0, x.copy(2, 2));
        due("word", 4, x.word(2, 3, 0));
    }

    @Says(promise = 7, value = "All WORDS of ROOM q become those of ROOM p: how many became other. BAD.")
    private static void roomsGoTheirOwnWaysBehindACopy() {
        BuiltTwice x = new BuiltTwice();
        x.word(0, 0, 9);
        x.copy(0, 1);
        x.word(0, 0, 8);
        due("the copy", 9, x.word(1, 0, 7));
        due("what was copied", 8, x.word(0, 0, 8));
    }

    // ---- 8 step

    @Says(promise = 8, value = "A STEP, without INPUTS: its number. BAD, FULL.")
    private static void stepsAreMadeTo24() {
        BuiltTwice x = new BuiltTwice();
        for (int s = 0; s < 24; s++) {
            due("number", s, x.step(s % 8, 255, 7));
            due("it has no inputs", NOT, x.made(0, s));
        }
        due("the 25th", FULL, x.step(0, 0, 0));
        due("24 there are", 24, x.count(1));
    }

    @Says(promise = 8, value = "A STEP, without INPUTS: its number. BAD, FULL.")
    private static void stepIsBadBeforeItIsFull() {
        BuiltTwice x = withSteps(24);
        IntToLongFunction[] calls = {v -> x.step(v, 0, 0), v -> x.step(0, v, 0), v -> x.step(0, 0, v)};
        int[] most = {7, 255, 7};
        for (int k = 0; k < 3; k++) {
            due("just above " + k, BAD, calls[k].applyAsLong(most[k] + 1));
            due("just below " + k, BAD, calls[k].applyAsLong(-1));
            due("the most " + k, FULL, calls[k].applyAsLong(most[k]));
            due("the least " + k, FULL, calls[k].applyAsLong(0));
        }
    }

    // ---- 9 need

    @Says(promise = 9, value = "An INPUT more of a STEP: TEXT of that number, or 100 and a STEP of a lesser number: how many it has. BAD.")
    private static void needTakesATextThatThereIs() {
        BuiltTwice x = withTexts(3);
        x.step(JOIN, 0, 0);
        dueRange("input of step 0", 0, 2, t -> x.need(0, t));
        BuiltTwice full = withTexts(20);
        full.step(JOIN, 0, 0);
        dueRange("input of step 0", 0, 19, t -> full.need(0, t));
        dueBytes("both of them", full, 0, 0, 10, 29);
    }

    @Says(promise = 9, value = "An INPUT more of a STEP: TEXT of that number, or 100 and a STEP of a lesser number: how many it has. BAD.")
    private static void needTakes100AndALesserStep() {
        BuiltTwice x = withSteps(24);
        for (int input : new int[] {99, 123, 124, 200, MAX, 1, 20, -1, -100, MIN}) {
            due("input " + input, BAD, x.need(23, input));
        }
        due("step 0", 1, x.need(23, 100));
        due("step 22", 2, x.need(23, 122));
        due("text 0", 3, x.need(23, 0));
        due("they are used", 1 | 1 << 22 | 1 << 23, x.uses(23, 0));
        due("step 0 of step 0", BAD, x.need(0, 100));
        due("step 1 of step 1", BAD, x.need(1, 101));
    }

    @Says(promise = 9, value = "An INPUT more of a STEP: TEXT of that number, or 100 and a STEP of a lesser number: how many it has. BAD.")
    private static void needTakesAStepThatThereIs() {
        BuiltTwice x = withSteps(2);
        dueRange("step", 0, 1, s -> x.need(s, 0));
        due("none there is", BAD, withSteps(0).need(0, 0));
    }

    @Says(promise = 9, value = "NOT: a STEP has this one among its INPUTS.")
    private static void needIsNotForAStepThatIsAnInput() {
        BuiltTwice x = withSteps(24);
        due("before it", 1, x.need(22, 0));
        due("as an input", 1, x.need(23, 122));
        due("since then", NOT, x.need(22, 0));
        due("since then, a step", NOT, x.need(22, 121));
        due("it is as it was", 1, x.made(0, 22));
        due("one that is none", 1, x.need(21, 0));
        due("its user may have more", 2, x.need(23, 122));
        due("step 0", 1, x.need(0, 0));
        x.need(1, 100);
        due("step 0 since then", NOT, x.need(0, 0));
    }

    @Says(promise = 9, value = "FULL: it has four.")
    private static void needIsFullAtFour() {
        BuiltTwice x = withSteps(2);
        for (int k = 1; k <= 4; k++) {
            due("input " + k, k, x.need(1, k % 2 == 0 ? 0 : 100));
        }
        due("the fifth, a text", FULL, x.need(1, 0));
        due("the fifth, a step", FULL, x.need(1, 100));
        due("the other step's inputs", NOT, x.need(0, 0));
    }

    @Says(promise = 9, value = "FULL: it has four.")
    private static void needThatIsFullTakesNoStepAsInput() {
        BuiltTwice x = withSteps(2);
        for (int k = 1; k <= 4; k++) {
            x.need(1, 0);
        }
        due("step 0 as the fifth", FULL, x.need(1, 100));
        due("step 0 is no input", 1, x.need(0, 0));
        due("step 0 is not used", 2, x.uses(1, 0));
    }

    @Says("Answers, of several the one named first:")
    private static void needIsBadThenNotThenFull() {
        BuiltTwice x = withSteps(3);
        for (int k = 0; k < 4; k++) {
            x.need(1, 0);
        }
        due("full", FULL, x.need(1, 0));
        due("bad and full", BAD, x.need(1, 1));
        x.need(2, 101);
        due("not and full", NOT, x.need(1, 0));
        due("bad, not and full", BAD, x.need(1, 101));
    }
}
