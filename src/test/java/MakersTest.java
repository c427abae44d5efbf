/** Promises 24 to 31, and the terms on which they rest: makers, followed down to seeds. */
public final class MakersTest extends Bench {
    public static void main(String[] args) {
        runAll(MakersTest.class);
    }

    private static BuiltTwice withTexts(int n) {
        BuiltTwice x = new BuiltTwice();
        for (int t = 0; t < n; t++) {
            x.text();
        }
        return x;
    }

    /** Each of 0 .. 28 was made by the next greater one, from text 0; 29 is a seed. */
    private static BuiltTwice allInARow() {
        BuiltTwice x = withTexts(2);
        for (int m = 0; m < 29; m++) {
            x.maker(m, m + 1, 0);
        }
        return x;
    }

    /** 9 and 8 lead to the ring 3, 7, 5; 2 was made by itself; 1 by 0, which is a seed. */
    private static BuiltTwice withRings() {
        BuiltTwice x = withTexts(3);
        int[][] made = {{9, 8, 0}, {8, 3, 1}, {3, 7, 0}, {7, 5, 0}, {5, 3, 2}, {2, 2, 1}, {1, 0, 1}};
        for (int[] m : made) {
            x.maker(m[0], m[1], m[2]);
        }
        return x;
    }

    // ---- makers

    @Says("MAKERS 0 .. 29: each is a SEED (at first), or was MADE by a MAKER (it may be itself, or a greater one) from a TEXT.")
    private static void makersAre0To29InEveryCall() {
        BuiltTwice x = withTexts(1);
        dueRange("maker", 0, 29, m -> x.maker(m, 5, 0));
        dueRange("maker, as a seed", 0, 29, m -> x.maker(m, -1, 0));
        dueRange("down", 0, 29, x::down);
        dueRange("ring", 0, 29, m -> x.ring(m, 0));
        dueRange("needs", 0, 29, m -> x.needs(m, 0));
        dueRange("forge", 0, 29, m -> x.forge(m, 0));
        dueRange("trust", 0, 29, x::trust);
        dueRange("heirs", 0, 29, x::heirs);
    }

    @Says("MAKERS 0 .. 29: each is a SEED (at first), or was MADE by a MAKER (it may be itself, or a greater one) from a TEXT.")
    private static void aMakerMayBeMadeByItselfOrAGreaterOne() {
        BuiltTwice x = withTexts(1);
        due("by itself", 1, x.maker(0, 0, 0));
        due("by the greatest", 1, x.maker(1, 29, 0));
        due("the greatest by the least", 1, x.maker(29, 0, 0));
        due("to itself", 0, x.ring(0, 0));
        due("to it over the greatest", 0, x.ring(1, 0));
    }

    // ---- 24 maker

    @Says(promise = 24, value = "A MAKER was MADE by another one (or itself) from a TEXT; by -1: it is a SEED (text does not count): 1. BAD.")
    private static void makerTakesMakersAndATextThatThereIs() {
        BuiltTwice x = withTexts(3);
        dueRange("maker", 0, 29, m -> x.maker(m, 0, 0));
        dueRange("by", -1, 29, by -> x.maker(0, by, 0));
        dueRange("text", 0, 2, t -> x.maker(0, 1, t));
        BuiltTwice full = withTexts(20);
        dueRange("text of 20", 0, 19, t -> full.maker(0, 1, t));
        due("none there is", BAD, new BuiltTwice().maker(0, 1, 0));
        due("none there is, by itself", BAD, new BuiltTwice().maker(0, 0, 0));
    }

    @Says(promise = 24, value = "A MAKER was MADE by another one (or itself) from a TEXT; by -1: it is a SEED (text does not count): 1. BAD.")
    private static void textOfASeedDoesNotCount() {
        BuiltTwice x = withTexts(1);
        for (int text : new int[] {0, 1, 20, -1, -2, MIN, MAX}) {
            x.maker(4, 5, 0);
            due("made", 1, x.down(4));
            due("text " + text, 1, x.maker(4, -1, text));
            due("a seed", 0, x.down(4));
            due("it needs none", 0, x.needs(4, 0));
        }
        due("without any text", 1, new BuiltTwice().maker(29, -1, 0));
        due("no such maker", BAD, x.maker(30, -1, 0));
        due("no such maker", BAD, x.maker(-1, -1, 0));
    }

    @Says(promise = 24, value = "A MAKER was MADE by another one (or itself) from a TEXT; by -1: it is a SEED (text does not count): 1. BAD.")
    private static void makerMayBeToldAnew() {
        BuiltTwice x = withTexts(2);
        x.maker(0, 1, 0);
        x.maker(0, 2, 1);
        due("the second one has an heir", 1, x.heirs(2));
        due("the first one has none", 0, x.heirs(1));
        due("one text", 1, x.needs(0, 0));
        due("seeds", 29, x.count(2));
    }

    @Says(promise = 24, value = "A MAKER was MADE by another one (or itself) from a TEXT; by -1: it is a SEED (text does not count): 1. BAD.")
    private static void makerThatIsBadStaysAsItIs() {
        BuiltTwice x = withTexts(2);
        x.maker(0, 1, 1);
        x.lack(1, 1);
        due("by -2", BAD, x.maker(0, -2, 0));
        due("by 30", BAD, x.maker(0, 30, 0));
        due("text 2", BAD, x.maker(0, 2, 2));
        due("text -1", BAD, x.maker(0, 2, -1));
        due("one down", 1, x.down(0));
        due("by 1", 1, x.heirs(1));
        due("from text 1", 1, x.needs(0, 1));
    }

    @Says(promise = 24, value = "A MAKER was MADE by another one (or itself) from a TEXT; by -1: it is a SEED (text does not count): 1. BAD.")
    private static void makerStaysForgedAsItIsToldAnew() {
        BuiltTwice x = withTexts(1);
        x.forge(3, 1);
        x.maker(3, 4, 0);
        due("made", 1, x.forge(3, 1));
        x.maker(3, -1, 0);
        due("a seed", 1, x.forge(3, 1));
    }

    // ---- 25 down

    @Says("DOWN of a MAKER: how often one goes to that which MADE it till a SEED: RING, if one never comes there.")
    private static void downIs0To29() {
        BuiltTwice x = allInARow();
        for (int m = 0; m < 30; m++) {
            due("down of " + m, 29 - m, x.down(m));
        }
    }

    @Says("DOWN of a MAKER: how often one goes to that which MADE it till a SEED: RING, if one never comes there.")
    private static void downOfRingsFromOneTo30() {
        BuiltTwice x = allInARow();
        x.maker(29, 29, 0);
        due("a ring of one, from afar", RING, x.down(0));
        due("a ring of one, itself", RING, x.down(29));
        x.maker(29, 28, 0);
        due("a ring of two", RING, x.down(0));
        x.maker(29, 0, 0);
        due("a ring of all, the first", RING, x.down(0));
        due("a ring of all, the last", RING, x.down(29));
        x.maker(29, -1, 0);
        due("a seed again", 29, x.down(0));
    }

    @Says(promise = 25, value = "DOWN. BAD, RING.")
    private static void downIsBadForNoMaker() {
        BuiltTwice x = withRings();
        dueRange("maker", 0, 29, x::down);
        due("a seed", 0, x.down(0));
        due("made by a seed", 1, x.down(1));
        due("made by itself", RING, x.down(2));
    }

    // ---- 26 ring

    @Says("The RING: its MAKERS from the first one to which one comes that is in it, in the order in which one goes.")
    private static void ringBeginsWhereOneComesToIt() {
        BuiltTwice x = withRings();
        int[][] want = {{9, 3, 7, 5}, {8, 3, 7, 5}, {3, 3, 7, 5}, {7, 7, 5, 3}, {5, 5, 3, 7}};
        for (int[] row : want) {
            for (int i = 0; i < 3; i++) {
                due("from " + row[0] + ", " + i, row[i + 1], x.ring(row[0], i));
            }
            due("from " + row[0] + ", 3", BAD, x.ring(row[0], 3));
        }
    }

    @Says("The RING: its MAKERS from the first one to which one comes that is in it, in the order in which one goes.")
    private static void ringOfOneAndOfAll() {
        BuiltTwice x = allInARow();
        x.maker(29, 29, 0);
        due("of one, from afar", 29, x.ring(0, 0));
        due("of one, 1", BAD, x.ring(0, 1));
        due("of one, itself", 29, x.ring(29, 0));
        x.maker(29, 0, 0);
        for (int i = 0; i < 30; i++) {
            due("of all, " + i, (17 + i) % 30, x.ring(17, i));
        }
        due("of all, 30", BAD, x.ring(17, 30));
    }

    @Says(promise = 26, value = "MAKER i of the RING to which a MAKER leads. BAD (also: none such).")
    private static void ringIsBadForAnIThatItDoesNotHave() {
        BuiltTwice x = withRings();
        dueRange("i of three", 0, 2, i -> x.ring(9, i));
        dueRange("i of one", 0, 0, i -> x.ring(2, i));
        dueRange("maker", 0, 29, m -> x.ring(m, 0));
    }

    @Says(promise = 26, value = "NOT: it leads to a SEED.")
    private static void ringIsNotForOneThatLeadsToASeed() {
        BuiltTwice x = withRings();
        for (int i : new int[] {0, 1, 29, 30, -1, MIN, MAX}) {
            due("made by a seed, i " + i, NOT, x.ring(1, i));
            due("a seed, i " + i, NOT, x.ring(0, i));
        }
        due("no such maker", BAD, x.ring(30, 0));
    }

    // ---- 27 needs

    @Says("NEEDS of a MAKER: the TEXTS by which it and all on the way down were MADE (to the SEED, or once round the RING): how many unlike ones, how many of these are LACKING.")
    private static void needsOfNoneOfOneAndOf20() {
        BuiltTwice x = withTexts(20);
        due("a seed", 0, x.needs(20, 0));
        for (int m = 19; m >= 0; m--) {
            x.maker(m, m + 1, m);
            due("from " + m, 20 - m, x.needs(m, 0));
            due("none lacks", 0, x.needs(m, 1));
        }
        for (int t = 0; t < 20; t++) {
            x.lack(t, 1);
            due("so many lack", t + 1, x.needs(0, 1));
        }
        due("all the same", 20, x.needs(0, 0));
        due("of the last one's", 1, x.needs(19, 1));
    }

    @Says("NEEDS of a MAKER: the TEXTS by which it and all on the way down were MADE (to the SEED, or once round the RING): how many unlike ones, how many of these are LACKING.")
    private static void needsCountsOneTextOnce() {
        BuiltTwice x = allInARow();
        due("29 times text 0", 1, x.needs(0, 0));
        x.lack(0, 1);
        x.lack(1, 1);
        due("it lacks, once", 1, x.needs(0, 1));
        x.maker(28, 29, 1);
        due("and text 1", 2, x.needs(0, 0));
        due("that lacks, too", 2, x.needs(0, 1));
        due("above the way", 1, x.needs(28, 0));
    }

    @Says("NEEDS of a MAKER: the TEXTS by which it and all on the way down were MADE (to the SEED, or once round the RING): how many unlike ones, how many of these are LACKING.")
    private static void needsGoesOnceRoundTheRing() {
        BuiltTwice x = withRings();
        due("way and ring", 3, x.needs(9, 0));
        due("just the ring", 2, x.needs(7, 0));
        due("made by itself", 1, x.needs(2, 0));
        x.lack(1, 1);
        x.lack(2, 1);
        due("lacking on way and ring", 2, x.needs(9, 1));
        due("lacking in the ring", 1, x.needs(3, 1));
        due("lacking of itself", 1, x.needs(2, 1));
    }

    @Says(promise = 27, value = "NEEDS: unlike TEXTS (what 0), of these LACKING (1). BAD.")
    private static void needsTakesWhat0And1() {
        BuiltTwice x = withRings();
        dueRange("what", 0, 1, what -> x.needs(9, what));
        dueRange("what, of a seed", 0, 1, what -> x.needs(0, what));
        dueRange("maker", 0, 29, m -> x.needs(m, 1));
    }

    @Says(promise = 27, value = "NEEDS: unlike TEXTS (what 0), of these LACKING (1). BAD.")
    private static void needsTakesTextsOfLikeBytesAsTwo() {
        BuiltTwice x = new BuiltTwice();
        textOf(x, "a");
        textOf(x, "a");
        x.maker(0, 1, 0);
        x.maker(1, 2, 1);
        due("two texts", 2, x.needs(0, 0));
        x.lack(1, 1);
        due("one of them lacks", 1, x.needs(0, 1));
    }

    // ---- 28 forge

    @Says(promise = 28, value = "A MAKER is FORGED (1) or not (0): what it was. BAD.")
    private static void forgeAnswersWhatItWas() {
        BuiltTwice x = new BuiltTwice();
        for (int m : new int[] {0, 29}) {
            due("at first", 0, x.forge(m, 0));
            due("to 1", 0, x.forge(m, 1));
            due("1 to 1", 1, x.forge(m, 1));
            due("to 0", 1, x.forge(m, 0));
            due("0 to 0", 0, x.forge(m, 0));
        }
    }

    @Says(promise = 28, value = "A MAKER is FORGED (1) or not (0): what it was. BAD.")
    private static void forgeTakes0And1OfAMaker() {
        BuiltTwice x = new BuiltTwice();
        dueRange("maker", 0, 29, m -> x.forge(m, 1));
        dueRange("is", 0, 1, is -> x.forge(7, is));
        due("0, 29 and 7", 3, x.count(3));
        for (int is : new int[] {-1, 2}) {
            due("is " + is, BAD, x.forge(7, is));
        }
        due("it stays", 1, x.forge(7, 1));
    }

    // ---- 29 trust

    @Says("FORGED: a MAKER may be so (told); TRUST of one: it and all on its way down are not FORGED.")
    private static void trustHangsOnEachOneOnTheWay() {
        BuiltTwice x = allInARow();
        for (int m = 0; m < 30; m++) {
            due("none is forged", 1, x.trust(0));
            x.forge(m, 1);
            due("just " + m, 0, x.trust(0));
            due("it itself", 0, x.trust(m));
            due("below it", m < 29 ? 1 : 0, x.trust(Math.min(m + 1, 29)));
            x.forge(m, 0);
        }
    }

    @Says("FORGED: a MAKER may be so (told); TRUST of one: it and all on its way down are not FORGED.")
    private static void trustRoundARing() {
        BuiltTwice x = withRings();
        due("a ring without any forged", 1, x.trust(9));
        x.forge(9, 1);
        due("above the ring", 1, x.trust(8));
        x.forge(9, 0);
        x.forge(5, 1);
        for (int m : new int[] {9, 8, 3, 7, 5}) {
            due("one of the ring, from " + m, 0, x.trust(m));
        }
        due("another ring", 1, x.trust(2));
        x.forge(2, 1);
        due("a ring of one", 0, x.trust(2));
    }

    @Says(promise = 29, value = "1 if a MAKER has TRUST, else 0. BAD.")
    private static void trustIsBadForNoMaker() {
        BuiltTwice x = withRings();
        dueRange("maker", 0, 29, x::trust);
        x.forge(29, 1);
        dueRange("maker, forged", 0, 29, x::trust);
        due("forged", 0, x.trust(29));
    }

    // ---- 30 heirs

    @Says(promise = 30, value = "How many MAKERS lead to a MAKER (it not counted). BAD.")
    private static void heirsAre0To29() {
        BuiltTwice x = allInARow();
        for (int m = 0; m < 30; m++) {
            due("heirs of " + m, m, x.heirs(m));
        }
        x.maker(29, 0, 0);
        for (int m = 0; m < 30; m++) {
            due("in a ring of all, " + m, 29, x.heirs(m));
        }
    }

    @Says(promise = 30, value = "How many MAKERS lead to a MAKER (it not counted). BAD.")
    private static void heirsInAndAheadOfARing() {
        BuiltTwice x = withRings();
        due("in the ring", 4, x.heirs(3));
        due("in the ring, away from its beginning", 4, x.heirs(5));
        due("ahead of the ring", 1, x.heirs(8));
        due("the farthest", 0, x.heirs(9));
        due("made by itself", 0, x.heirs(2));
        due("a seed with one", 1, x.heirs(0));
        due("a seed without", 0, x.heirs(29));
    }

    @Says(promise = 30, value = "How many MAKERS lead to a MAKER (it not counted). BAD.")
    private static void heirsIsBadForNoMaker() {
        BuiltTwice x = withRings();
        dueRange("maker", 0, 29, x::heirs);
    }

    // ---- 31 count

    @Says(promise = 31, value = "How many: 0 TEXTS, 1 STEPS, 2 SEEDS, 3 FORGED, 4 bytes on THE TAPE, 5 TEXTS that are LACKING. BAD.")
    private static void countTakesWhat0To5() {
        BuiltTwice x = new BuiltTwice();
        dueRange("what", 0, 5, x::count);
    }

    @Says(promise = 31, value = "How many: 0 TEXTS, 1 STEPS, 2 SEEDS, 3 FORGED, 4 bytes on THE TAPE, 5 TEXTS that are LACKING. BAD.")
    private static void countOfNone() {
        BuiltTwice x = new BuiltTwice();
        int[] want = {0, 0, 30, 0, 0, 0};
        for (int what = 0; what < 6; what++) {
            due("count " + what, want[what], x.count(what));
        }
        x.text();
        for (int m = 0; m < 30; m++) {
            x.maker(m, 0, 0);
            due("seeds", 29 - m, x.count(2));
        }
        x.maker(0, 0, 0);
        due("no seeds, told again", 0, x.count(2));
    }

    @Says(promise = 31, value = "How many: 0 TEXTS, 1 STEPS, 2 SEEDS, 3 FORGED, 4 bytes on THE TAPE, 5 TEXTS that are LACKING. BAD.")
    private static void countOfAsManyAsThereMayBe() {
        BuiltTwice x = withTexts(20);
        for (int s = 0; s < 24; s++) {
            x.step(JOIN, 0, 0);
        }
        for (int m = 0; m < 30; m++) {
            x.forge(m, 1);
        }
        for (int t = 0; t < 20; t++) {
            x.lack(t, 1);
        }
        feedMany(x, 60, 0);
        int[] want = {20, 24, 30, 30, 60, 20};
        for (int what = 0; what < 6; what++) {
            due("count " + what, want[what], x.count(what));
        }
    }

    @Says(promise = 31, value = "How many: 0 TEXTS, 1 STEPS, 2 SEEDS, 3 FORGED, 4 bytes on THE TAPE, 5 TEXTS that are LACKING. BAD.")
    private static void countGoesDownAgain() {
        BuiltTwice x = withTexts(2);
        x.lack(0, 1);
        x.lack(1, 1);
        x.lack(0, 0);
        x.forge(1, 1);
        x.forge(2, 1);
        x.forge(1, 0);
        x.maker(1, 2, 0);
        x.maker(2, 3, 0);
        x.maker(1, -1, 0);
        x.feed(3, 0);
        x.write(0);
        int[] want = {2, 0, 29, 1, 0, 1};
        for (int what = 0; what < 6; what++) {
            due("count " + what, want[what], x.count(what));
        }
    }
}
