/** Promises 10 to 15: what steps make, read and use, and in how many orders. */
public final class BuildingTest extends Bench {
    public static void main(String[] args) {
        runAll(BuildingTest.class);
    }

    /** Step 0 makes 200 bytes, i at place i % 60; step 1 makes none; step 2 fails. */
    private static BuiltTwice mostNoneAndFailing() {
        BuiltTwice x = new BuiltTwice();
        textOfLength(x, 60);
        textOfLength(x, 20);
        x.text();
        stepOf(x, JOIN, 0, 0, 0, 0, 0, 1);
        stepOf(x, JOIN, 0, 0, 2);
        x.step(JOIN, 0, 0);
        return x;
    }

    /** Steps each with the one ahead of it as input. */
    private static BuiltTwice chain(int n) {
        BuiltTwice x = new BuiltTwice();
        x.step(JOIN, 0, 0);
        for (int s = 1; s < n; s++) {
            stepOf(x, JOIN, 0, 0, STEP + s - 1);
        }
        return x;
    }

    // ---- 10 made

    @Says(promise = 10, value = "How many bytes a STEP makes in a ROOM; NOT: it FAILS. BAD.")
    private static void madeIs0To200OrNot() {
        BuiltTwice x = mostNoneAndFailing();
        due("most", 200, x.made(7, 0));
        due("none", 0, x.made(7, 1));
        due("failing", NOT, x.made(7, 2));
    }

    @Says(promise = 10, value = "How many bytes a STEP makes in a ROOM; NOT: it FAILS. BAD.")
    private static void madeIsBadForNoRoomAndNoStep() {
        BuiltTwice x = mostNoneAndFailing();
        dueRange("room", 0, 7, r -> x.made(r, 0));
        dueRange("step", 0, 2, s -> x.made(0, s));
        due("no room, though it fails", BAD, x.made(8, 2));
    }

    @Says(promise = 10, value = "How many bytes a STEP makes in a ROOM; NOT: it FAILS. BAD.")
    private static void madeHangsOnTheRoom() {
        BuiltTwice x = new BuiltTwice();
        failsInRoom0(x);
        due("room 0", NOT, x.made(0, 2));
        due("room 1", 200, x.made(1, 2));
        due("room 0 again", NOT, x.made(0, 2));
        x.word(0, 0, 77);
        due("room 0 with another word", 200, x.made(0, 2));
    }

    // ---- 11 at

    @Says(promise = 11, value = "The byte at a place (0 .. 199) of what it makes.")
    private static void atAllPlacesOf200() {
        BuiltTwice x = mostNoneAndFailing();
        for (int place = 0; place < 200; place++) {
            due("place " + place, place % 60, x.at(0, 0, place));
        }
        due("place 200", BAD, x.at(0, 0, 200));
        due("place -1", BAD, x.at(0, 0, -1));
    }

    @Says(promise = 11, value = "BAD; NOT: it FAILS; BAD: it has none there.")
    private static void atIsNotForAStepThatFails() {
        BuiltTwice x = mostNoneAndFailing();
        due("place 0", NOT, x.at(0, 2, 0));
        due("place 199", NOT, x.at(0, 2, 199));
    }

    @Says(promise = 11, value = "BAD; NOT: it FAILS; BAD: it has none there.")
    private static void atIsBadAheadOfNot() {
        BuiltTwice x = mostNoneAndFailing();
        for (int place : new int[] {-1, 200, MIN, MAX}) {
            due("place " + place, BAD, x.at(0, 2, place));
        }
        due("room 8", BAD, x.at(8, 2, 0));
        due("room -1", BAD, x.at(-1, 2, 0));
        due("step 3", BAD, x.at(0, 3, 0));
    }

    @Says(promise = 11, value = "BAD; NOT: it FAILS; BAD: it has none there.")
    private static void atIsBadBehindItsEnd() {
        BuiltTwice x = mostNoneAndFailing();
        due("of none, place 0", BAD, x.at(0, 1, 0));
        due("of none, place 199", BAD, x.at(0, 1, 199));
        int one = stepOf(x, STAMP, 0, 0, 2);
        due("of one, place 0", 0, x.at(0, one, 0));
        due("of one, place 1", BAD, x.at(0, one, 1));
        int less = stepOf(x, STRIP, 19, 0, STEP + 0);
        due("of 196, place 195", 18, x.at(0, less, 195));
        due("of 196, place 196", BAD, x.at(0, less, 196));
    }

    // ---- 12 reads

    @Says(promise = 12, value = "WORDS that a STEP itself reads in a ROOM (what 0), that it USES (1), as bits. BAD.")
    private static void readsTakesWhat0And1() {
        BuiltTwice x = mostNoneAndFailing();
        dueRange("what", 0, 1, what -> x.reads(0, 0, what));
        dueRange("room", 0, 7, r -> x.reads(r, 0, 1));
        dueRange("step", 0, 2, s -> x.reads(0, s, 1));
        due("of one that fails, what 2", BAD, x.reads(0, 2, 2));
    }

    @Says(promise = 12, value = "WORDS that a STEP itself reads in a ROOM (what 0), that it USES (1), as bits. BAD.")
    private static void readsTheFirstAndTheLastWord() {
        BuiltTwice x = mostNoneAndFailing();
        int low = stepOf(x, STAMP, 0, 0, 2);
        int high = stepOf(x, PICK, 0, 7, STEP + low);
        due("word 0", 1, x.reads(0, low, 0));
        due("word 7", 128, x.reads(0, high, 0));
        due("both", 129, x.reads(0, high, 1));
        due("just its own", 1, x.reads(0, low, 1));
    }

    @Says(promise = 12, value = "WORDS that a STEP itself reads in a ROOM (what 0), that it USES (1), as bits. BAD.")
    private static void readsOfOneThatFailsIs0() {
        BuiltTwice x = new BuiltTwice();
        failsInRoom0(x);
        due("itself", 0, x.reads(0, 2, 0));
        due("used", 1, x.reads(0, 2, 1));
        due("where it does not", 32, x.reads(1, 2, 0));
    }

    // ---- 13 uses

    @Says(promise = 13, value = "STEPS that a STEP USES (itself, too), as bits (what 0); TEXTS that these have as INPUTS (1). BAD.")
    private static void usesTakesWhat0And1() {
        BuiltTwice x = mostNoneAndFailing();
        dueRange("what", 0, 1, what -> x.uses(0, what));
        dueRange("step", 0, 2, s -> x.uses(s, 0));
    }

    @Says(promise = 13, value = "STEPS that a STEP USES (itself, too), as bits (what 0); TEXTS that these have as INPUTS (1). BAD.")
    private static void usesOfNoInputsIsItself() {
        BuiltTwice x = mostNoneAndFailing();
        due("steps", 4, x.uses(2, 0));
        due("texts", 0, x.uses(2, 1));
    }

    @Says(promise = 13, value = "STEPS that a STEP USES (itself, too), as bits (what 0); TEXTS that these have as INPUTS (1). BAD.")
    private static void usesOfAllStepsAndTexts() {
        BuiltTwice x = new BuiltTwice();
        for (int t = 0; t < 20; t++) {
            x.text();
        }
        x.step(JOIN, 0, 0);
        x.need(0, 0);
        for (int s = 1; s < 24; s++) {
            stepOf(x, JOIN, 0, 0, STEP + s - 1, Math.min(s, 19));
        }
        due("24 steps", 0xFFFFFF, x.uses(23, 0));
        due("20 texts", 0xFFFFF, x.uses(23, 1));
        due("text 19 of step 19 on", 0x7FFFF, x.uses(18, 1));
    }

    @Says(promise = 13, value = "STEPS that a STEP USES (itself, too), as bits (what 0); TEXTS that these have as INPUTS (1). BAD.")
    private static void usesHangsOnNoRoomAndNoFailing() {
        BuiltTwice x = mostNoneAndFailing();
        int s = stepOf(x, PICK, 0, 0, STEP + 2, STEP + 0);
        x.lack(0, 1);
        due("steps", 1 | 4 | 1 << s, x.uses(s, 0));
        due("texts, one lacking", 3, x.uses(s, 1));
    }

    // ---- 14 orders

    @Says("in how many orders that can be (at most 16 STEPS; more: BIG).")
    private static void ordersOf16StepsAndOf17() {
        BuiltTwice x = chain(24);
        due("one", 1, x.orders(0));
        due("16", 1, x.orders(15));
        due("17", BIG, x.orders(16));
        due("24", BIG, x.orders(23));
        due("16 again", 1, x.orders(15));
    }

    @Says("in how many orders that can be (at most 16 STEPS; more: BIG).")
    private static void ordersOf16IsMoreThanAnIntHas() {
        BuiltTwice x = new BuiltTwice();
        for (int tree = 0; tree < 3; tree++) {
            for (int s = 0; s < 4; s++) {
                x.step(JOIN, 0, 0);
            }
            int leaf = STEP + 5 * tree;
            stepOf(x, JOIN, 0, 0, leaf, leaf + 1, leaf + 2, leaf + 3);
        }
        int top = stepOf(x, JOIN, 0, 0, STEP + 4, STEP + 9, STEP + 14);
        due("15! / 5 / 5 / 5", 10461394944L, x.orders(top));
        x.step(JOIN, 0, 0);
        x.need(top, STEP + 2);
        due("one of them a second time", 10461394944L, x.orders(top));
        due("one more above", BIG, x.orders(stepOf(x, JOIN, 0, 0, STEP + top)));
    }

    @Says("ORDERS of a STEP: it and all STEPS that it USES, done one by one, each behind its INPUTS:")
    private static void ordersCountEachStepOnce() {
        BuiltTwice x = new BuiltTwice();
        x.step(JOIN, 0, 0);
        stepOf(x, JOIN, 0, 0, STEP + 0, STEP + 0);
        stepOf(x, JOIN, 0, 0, STEP + 0);
        stepOf(x, JOIN, 0, 0, STEP + 1, STEP + 2, STEP + 1, STEP + 0);
        due("one below two", 2, x.orders(3));
        due("the same twice", 1, x.orders(1));
        x.step(JOIN, 0, 0);
        due("two and two that are apart", 8, x.orders(stepOf(x, JOIN, 0, 0, STEP + 4, STEP + 1, STEP + 2)));
    }

    @Says("ORDERS of a STEP: it and all STEPS that it USES, done one by one, each behind its INPUTS:")
    private static void ordersAreOfStepsAlone() {
        BuiltTwice x = mostNoneAndFailing();
        due("texts are not done", 1, x.orders(0));
        due("one that fails", 1, x.orders(2));
        due("failing counts as well", 6, x.orders(stepOf(x, JOIN, 0, 0, STEP, STEP + 1, STEP + 2)));
    }

    @Says(promise = 14, value = "ORDERS. BAD, BIG.")
    private static void ordersIsBadForNoStep() {
        BuiltTwice x = chain(17);
        dueRange("step", 0, 16, x::orders);
        due("the last one", BIG, x.orders(16));
        due("none there is", BAD, new BuiltTwice().orders(0));
    }

    // ---- 15 built

    @Says(promise = 15, value = "How many of all STEPS do not FAIL in a ROOM. BAD.")
    private static void builtIs0To24() {
        BuiltTwice x = new BuiltTwice();
        due("no steps", 0, x.built(0));
        textOf(x, "a");
        for (int s = 0; s < 24; s++) {
            x.step(JOIN, 0, 0);
        }
        due("all fail", 0, x.built(7));
        for (int s = 0; s < 24; s++) {
            x.need(s, 0);
            due("so many stand", s + 1, x.built(7));
        }
        dueRange("room", 0, 7, x::built);
    }

    @Says(promise = 15, value = "How many of all STEPS do not FAIL in a ROOM. BAD.")
    private static void builtHangsOnTheRoom() {
        BuiltTwice x = new BuiltTwice();
        failsInRoom0(x);
        due("room 0", 2, x.built(0));
        due("room 1", 3, x.built(1));
    }
}
