/** Each promise by itself: ordinary inputs, the edges that the document names, and wrong inputs. */
public final class PromisesTest extends Bench {
    public static void main(String[] args) {
        newObject();
        feed();
        text();
        write();
        lack();
        word();
        copy();
        step();
        need();
        made();
        at();
        tools();
        failing();
        reads();
        uses();
        orders();
        built();
        alike();
        changes();
        change();
        cause();
        fix();
        stable();
        breaks();
        rooms();
        maker();
        down();
        ring();
        needs();
        forge();
        trust();
        heirs();
        count();
        fullBench();
        refusedCallsChangeNothing();
        end();
    }

    // ---- promises

    private static void newObject() {
        BuiltTwice x = new BuiltTwice();
        for (int what = 0; what <= 5; what++) {
            due("new: count " + what, what == 2 ? 30 : 0, x.count(what));
        }
        for (int room = 0; room < 8; room++) {
            due("new: built", 0, x.built(room));
            for (int word = 0; word < 8; word++) {
                due("new: word", 0, x.word(room, word, 0));
            }
        }
        for (int m = 0; m < 30; m++) {
            due("new: down", 0, x.down(m));
            due("new: forged", 0, x.forge(m, 0));
        }
        due("new: no step", BAD, x.made(0, 0));
        due("new: no text", BAD, x.write(0));
        due("new: no change", BAD, x.change(0, 0));
        due("BAD", BAD, BuiltTwice.BAD);
        due("NOT", NOT, BuiltTwice.NOT);
        due("FULL", FULL, BuiltTwice.FULL);
        due("BIG", BIG, BuiltTwice.BIG);
        due("RING", RING, BuiltTwice.RING);
    }

    private static void feed() {
        BuiltTwice x = new BuiltTwice();
        due("feed n 0", BAD, x.feed(0, 1));
        due("feed n 5", BAD, x.feed(5, 1));
        for (int n : OUTSIDE) {
            due("feed n " + n, BAD, x.feed(n, 1));
        }
        due("feed 4", 4, x.feed(4, 0xF1E2D3C4));
        due("feed 2", 6, x.feed(2, -2));
        due("feed 3", 9, x.feed(3, 0x01020304));
        x.text();
        dueBytes("fed", x, 0, stepOf(x, JOIN, 0, 0, 0), 0xC4, 0xD3, 0xE2, 0xF1, 254, 255, 4, 3, 2);
        for (int i = 1; i <= 57; i++) {
            due("feed 1", i, x.feed(1, i));
        }
        due("feed 4 at 57", FULL, x.feed(4, 0));
        due("feed 3 at 57", 60, x.feed(3, 0));
        due("feed 1 at 60", FULL, x.feed(1, 0));
        due("feed 9 at 60", BAD, x.feed(9, 0));
        due("tape full", 60, x.count(4));
    }

    private static void text() {
        BuiltTwice x = new BuiltTwice();
        for (int t = 0; t < 20; t++) {
            x.feed(1, t);
            due("text", t, x.text());
            due("tape empty behind text", 0, x.count(4));
        }
        x.feed(2, 5);
        due("text 20", FULL, x.text());
        due("tape stays", 2, x.count(4));
        due("texts stay", 20, x.count(0));
    }

    private static void write() {
        BuiltTwice x = new BuiltTwice();
        textOf(x, "abc");
        int s = stepOf(x, JOIN, 0, 0, 0);
        feedAll(x, 7, 8);
        due("write no text", BAD, x.write(1));
        for (int t : OUTSIDE) {
            due("write " + t, BAD, x.write(t));
        }
        due("tape stays", 2, x.count(4));
        due("write", 2, x.write(0));
        due("tape empty", 0, x.count(4));
        dueBytes("written", x, 0, s, 7, 8);
        x.lack(0, 1);
        feedAll(x, 9);
        due("write a lacking one", 1, x.write(0));
        due("it lacks still", NOT, x.made(0, s));
        due("write nothing", 0, x.write(0));
        x.lack(0, 0);
        dueBytes("written empty", x, 0, s);
    }

    private static void lack() {
        BuiltTwice x = new BuiltTwice();
        textOf(x, "abc");
        int s = stepOf(x, JOIN, 0, 0, 0);
        due("lack 1", 0, x.lack(0, 1));
        due("lack 1 again", 1, x.lack(0, 1));
        due("fails", NOT, x.made(0, s));
        due("lack 2", BAD, x.lack(0, 2));
        due("lack -1", BAD, x.lack(0, -1));
        due("lack no text", BAD, x.lack(1, 0));
        due("lack text -1", BAD, x.lack(-1, 0));
        due("lack 0", 1, x.lack(0, 0));
        due("lack 0 again", 0, x.lack(0, 0));
        dueBytes("bytes kept", x, 0, s, 'a', 'b', 'c');
    }

    private static void word() {
        BuiltTwice x = new BuiltTwice();
        due("word", 0, x.word(7, 7, 255));
        due("word again", 255, x.word(7, 7, 0));
        due("word room 8", BAD, x.word(8, 0, 0));
        due("word 8", BAD, x.word(0, 8, 0));
        due("word v 256", BAD, x.word(0, 0, 256));
        for (int v : OUTSIDE) {
            due("word room " + v, BAD, x.word(v, 0, 0));
            due("word " + v, BAD, x.word(0, v, 0));
            due("word v " + v, BAD, x.word(0, 0, v));
        }
        due("word untouched", 0, x.word(0, 0, 3));
        due("another room", 0, x.word(1, 0, 3));
        due("another word", 0, x.word(0, 1, 3));
    }

    private static void copy() {
        BuiltTwice x = new BuiltTwice();
        for (int w = 0; w < 8; w++) {
            x.word(2, w, w + 10);
            x.word(5, w, w < 3 ? w + 10 : 1);
        }
        due("copy", 5, x.copy(2, 5));
        due("copy again", 0, x.copy(2, 5));
        due("copy to itself", 0, x.copy(2, 2));
        for (int w = 0; w < 8; w++) {
            due("copied", w + 10, x.word(5, w, 0));
            due("source stays", w + 10, x.word(2, w, w + 10));
        }
        due("copy 8", BAD, x.copy(8, 0));
        due("copy to 8", BAD, x.copy(0, 8));
        for (int r : OUTSIDE) {
            due("copy " + r, BAD, x.copy(r, 0));
            due("copy to " + r, BAD, x.copy(0, r));
        }
    }

    private static void step() {
        BuiltTwice x = new BuiltTwice();
        due("tool 8", BAD, x.step(8, 0, 0));
        due("a 256", BAD, x.step(0, 256, 0));
        due("b 8", BAD, x.step(0, 0, 8));
        for (int v : OUTSIDE) {
            due("tool " + v, BAD, x.step(v, 0, 0));
            due("a " + v, BAD, x.step(0, v, 0));
            due("b " + v, BAD, x.step(0, 0, v));
        }
        due("none came of it", 0, x.count(1));
        for (int s = 0; s < 24; s++) {
            due("step", s, x.step(s % 8, s == 0 ? 255 : 0, 7 - s % 8));
        }
        due("step 24", FULL, x.step(0, 0, 0));
        due("step 24, wrong", BAD, x.step(8, 0, 0));
        due("24 there are", 24, x.count(1));
        due("without inputs", NOT, x.made(0, 23));
    }

    private static void need() {
        BuiltTwice x = new BuiltTwice();
        textOf(x, "a");
        x.step(JOIN, 0, 0);
        x.step(JOIN, 0, 0);
        x.step(JOIN, 0, 0);
        due("need no text", BAD, x.need(0, 1));
        due("need 20", BAD, x.need(0, 20));
        due("need 99", BAD, x.need(0, 99));
        due("need itself", BAD, x.need(1, 101));
        due("need a greater one", BAD, x.need(1, 102));
        due("need a step that is not", BAD, x.need(2, 103));
        due("need 100 of step 0", BAD, x.need(0, 100));
        due("no such step", BAD, x.need(3, 0));
        for (int v : OUTSIDE) {
            due("need " + v, BAD, x.need(1, v));
            due("need of " + v, BAD, x.need(v, 0));
        }
        due("need text", 1, x.need(1, 0));
        due("need step", 2, x.need(1, 100));
        due("need it twice", 3, x.need(1, 100));
        due("step 0 is taken", NOT, x.need(0, 0));
        due("taken and wrong", BAD, x.need(0, 1));
        due("need", 4, x.need(1, 0));
        due("has four", FULL, x.need(1, 0));
        due("has four, wrong", BAD, x.need(1, 7));
        due("need", 1, x.need(2, 101));
        due("taken and full", NOT, x.need(1, 0));
        due("taken still", NOT, x.need(0, 0));
    }

    private static void made() {
        BuiltTwice x = new BuiltTwice();
        textOf(x, "ab");
        textOf(x);
        int s = stepOf(x, JOIN, 0, 0, 0, 0);
        due("made", 4, x.made(7, s));
        due("made of an empty text", 0, x.made(0, stepOf(x, JOIN, 0, 0, 1)));
        due("made without inputs", NOT, x.made(0, x.step(JOIN, 0, 0)));
        due("made room 8", BAD, x.made(8, s));
        due("made step 3", BAD, x.made(0, 3));
        for (int v : OUTSIDE) {
            due("made room " + v, BAD, x.made(v, s));
            due("made step " + v, BAD, x.made(0, v));
        }
    }

    private static void at() {
        BuiltTwice x = new BuiltTwice();
        textOf(x, 0, 255, 128);
        int s = stepOf(x, JOIN, 0, 0, 0);
        int failing = x.step(JOIN, 0, 0);
        dueBytes("at", x, 3, s, 0, 255, 128);
        due("at 199 of three", BAD, x.at(0, s, 199));
        due("at 200", BAD, x.at(0, s, 200));
        due("at of a failing one", NOT, x.at(0, failing, 199));
        due("at 200 of a failing one", BAD, x.at(0, failing, 200));
        due("at -1 of a failing one", BAD, x.at(0, failing, -1));
        due("at room 8", BAD, x.at(8, s, 0));
        due("at step 2", BAD, x.at(0, 2, 0));
        for (int v : OUTSIDE) {
            due("at " + v, BAD, x.at(0, s, v));
            due("at room " + v, BAD, x.at(v, s, 0));
            due("at step " + v, BAD, x.at(0, v, 0));
        }
    }

    private static void tools() {
        BuiltTwice x = new BuiltTwice();
        textOf(x, 5, 200, 5);
        textOf(x, 9);
        textOf(x);
        x.word(1, 3, 2);
        x.word(2, 3, 3);
        x.word(3, 3, 255);
        dueBytes("JOIN", x, 0, stepOf(x, JOIN, 0, 0, 0, 1, 1), 5, 200, 5, 9, 9);
        int stamp = stepOf(x, STAMP, 0, 3, 0, 1);
        dueBytes("STAMP 0", x, 0, stamp, 5, 200, 5, 9, 0);
        dueBytes("STAMP 255", x, 3, stamp, 5, 200, 5, 9, 255);
        int pack = stepOf(x, PACK, 0, 3, 0, 1, 2, 1);
        dueBytes("PACK even", x, 1, pack, 5, 200, 5, 9, 9);
        dueBytes("PACK odd", x, 2, pack, 9, 9, 5, 200, 5);
        dueBytes("STRIP", x, 0, stepOf(x, STRIP, 5, 0, 0, 1), 200, 9);
        dueBytes("STRIP all", x, 0, stepOf(x, STRIP, 9, 0, 1));
        dueBytes("MASK", x, 0, stepOf(x, MASK, 255, 0, 0, 1), 250, 55, 250, 246);
        int pick = stepOf(x, PICK, 3, 3, 0, 2, 1);
        dueBytes("PICK less", x, 1, pick, 5, 200, 5);
        dueBytes("PICK not less", x, 2, pick, 9);
        dueBytes("PICK by 0", x, 0, stepOf(x, PICK, 0, 3, 0, 1), 9);
        dueBytes("SORT", x, 0, stepOf(x, SORT, 0, 0, 0, 1, 0), 5, 5, 5, 5, 9, 200, 200);
        textOf(x, 255, 0, 254, 1);
        dueBytes("SORT from 0 to 255", x, 0, stepOf(x, SORT, 0, 0, 3, 3), 0, 0, 1, 1, 254, 254, 255, 255);
        dueBytes("SIGN of nothing", x, 0, stepOf(x, SIGN, 0, 0, 2), 0, 0, 158, 55);
        int h = (40503 ^ 9) * 16777619;
        dueBytes("SIGN", x, 0, stepOf(x, SIGN, 0, 0, 1), h >>> 24, h >>> 16 & 255, h >>> 8 & 255, h & 255);
        int g = h;
        for (int v : new int[] {5, 200, 5}) {
            g = (g ^ v) * 16777619;
        }
        dueBytes("SIGN of more", x, 0, stepOf(x, SIGN, 0, 0, 1, 0), g >>> 24, g >>> 16 & 255, g >>> 8 & 255, g & 255);
    }

    private static void failing() {
        BuiltTwice x = new BuiltTwice();
        textOfLength(x, 60);
        textOfLength(x, 20);
        textOf(x, 1);
        for (int tool = 0; tool < 8; tool++) {
            boolean holds = tool != STAMP;
            int full = stepOf(x, tool, 44, 0, 0, 0, 0, 1);
            due("200 bytes by tool " + tool, holds ? 1 : 0, x.made(0, full) != NOT ? 1 : 0);
        }
        int most = 100;
        due("200 bytes", 200, x.made(0, 0));
        int over = stepOf(x, JOIN, 0, 0, most, 2);
        due("201 bytes", NOT, x.made(0, over));
        due("201 stripped", NOT, x.made(0, stepOf(x, STRIP, 1, 0, most, 2)));
        due("201 signed", NOT, x.made(0, stepOf(x, SIGN, 0, 0, most, 2)));
        due("201 packed", NOT, x.made(0, stepOf(x, PACK, 0, 0, most, 2)));
        due("201 picked of", 200, x.made(0, stepOf(x, PICK, 1, 0, most, 2)));
        int failed = stepOf(x, PICK, 1, 0, 2, 100 + over);
        due("an input failed, not picked", NOT, x.made(0, failed));
        due("an input failed", NOT, x.made(0, stepOf(x, SIGN, 0, 0, 100 + failed)));
        int picks = stepOf(x, PICK, 1, 0, 2, 1);
        x.lack(1, 1);
        due("an input lacks, not picked", NOT, x.made(0, picks));
        due("199 and a stamp", NOT, x.made(0, stepOf(x, STAMP, 0, 0, 0, 0, 0, 1)));
        x.lack(1, 0);
        for (int i = 0; i < 19; i++) {
            x.feed(1, 3);
        }
        x.write(1);
        due("199 and a stamp", 200, x.made(0, stepOf(x, STAMP, 0, 0, 0, 0, 0, 1)));
    }

    private static void reads() {
        BuiltTwice x = new BuiltTwice();
        textOf(x, "a");
        int[] own = new int[8];
        for (int tool = 0; tool < 8; tool++) {
            own[tool] = stepOf(x, tool, 1, 7 - tool, 0);
            int want = tool == STAMP || tool == PACK || tool == PICK ? 1 << 7 - tool : 0;
            due("reads itself, tool " + tool, want, x.reads(0, own[tool], 0));
            due("uses, tool " + tool, want, x.reads(0, own[tool], 1));
        }
        int s = stepOf(x, STAMP, 0, 0, 100 + own[PACK], 100 + own[PICK], 100 + own[JOIN]);
        int top = stepOf(x, JOIN, 0, 0, 100 + s);
        due("reads itself", 1, x.reads(0, s, 0));
        due("uses", 1 | 1 << 5 | 1 << 2, x.reads(0, top, 1));
        due("a JOIN reads none", 0, x.reads(0, top, 0));
        int empty = x.step(STAMP, 0, 3);
        int broken = stepOf(x, STAMP, 0, 4, 100 + empty, 100 + own[STAMP]);
        due("one that fails", 0, x.reads(0, empty, 0));
        due("one that fails, used", 1 << 6, x.reads(0, broken, 1));
        due("one that fails, itself", 0, x.reads(0, broken, 0));
        x.lack(0, 1);
        due("all lacking", 0, x.reads(0, top, 1));
        due("reads what 2", BAD, x.reads(0, s, 2));
        due("reads what -1", BAD, x.reads(0, s, -1));
        due("reads room 8", BAD, x.reads(8, s, 0));
        due("reads room -1", BAD, x.reads(-1, s, 0));
        due("reads no step", BAD, x.reads(0, 24, 0));
        due("reads step -1", BAD, x.reads(0, -1, 0));
    }

    private static void uses() {
        BuiltTwice x = new BuiltTwice();
        textOf(x, "a");
        textOf(x, "b");
        textOf(x, "c");
        int a = stepOf(x, JOIN, 0, 0, 2);
        int b = stepOf(x, JOIN, 0, 0);
        int c = stepOf(x, JOIN, 0, 0, 100 + a, 100 + a);
        int d = stepOf(x, JOIN, 0, 0, 0, 100 + c, 100 + b);
        due("uses itself", 1 << b, x.uses(b, 0));
        due("uses no text", 0, x.uses(b, 1));
        due("uses", 1 << a | 1 << c, x.uses(c, 0));
        due("uses all", 15, x.uses(d, 0));
        due("uses texts", 4, x.uses(c, 1));
        due("uses texts of all", 5, x.uses(d, 1));
        due("uses two texts itself", 6, x.uses(stepOf(x, JOIN, 0, 0, 2, 1), 1));
        x.lack(2, 1);
        due("uses lacking ones too", 5, x.uses(d, 1));
        due("uses what 2", BAD, x.uses(d, 2));
        due("uses what -1", BAD, x.uses(d, -1));
        due("uses no step", BAD, x.uses(5, 0));
        due("uses step -1", BAD, x.uses(-1, 0));
    }

    private static void orders() {
        BuiltTwice x = new BuiltTwice();
        due("orders no step", BAD, x.orders(0));
        for (int s = 0; s < 4; s++) {
            due("orders of one", 1, x.orders(x.step(JOIN, 0, 0)));
        }
        due("four apart", 24, x.orders(stepOf(x, JOIN, 0, 0, 100, 101, 102, 103)));
        for (int s = 5; s < 9; s++) {
            x.step(JOIN, 0, 0);
        }
        stepOf(x, JOIN, 0, 0, 105, 106, 107, 108);
        // two trees of five: 10! / (5 * 5), and one above them
        due("two trees", 3628800 / 25, x.orders(stepOf(x, JOIN, 0, 0, 104, 109)));
        for (int s = 11; s < 15; s++) {
            x.step(JOIN, 0, 0);
        }
        // three more leaves beside the tree of eleven: 14! / (11 * 5 * 5)
        int fifteen = stepOf(x, JOIN, 0, 0, 110, 111, 112, 113);
        due("used by it", 15, Integer.bitCount(x.uses(fifteen, 0)));
        due("fifteen steps", 87178291200L / 275, x.orders(fifteen));
        int sixteen = stepOf(x, JOIN, 0, 0, 100 + fifteen);
        due("sixteen steps", 87178291200L / 275, x.orders(sixteen));
        due("seventeen steps", BIG, x.orders(stepOf(x, JOIN, 0, 0, 100 + sixteen)));
        due("smaller again", 24, x.orders(4));
        due("orders -1", BAD, x.orders(-1));
        due("orders 24", BAD, x.orders(24));
        ordersOfTwelveLeaves();
        ordersOfAChain();
    }

    private static void ordersOfTwelveLeaves() {
        BuiltTwice x = new BuiltTwice();
        for (int tree = 0; tree < 3; tree++) {
            int leaf = 100 + 5 * tree;
            for (int s = 0; s < 4; s++) {
                x.step(JOIN, 0, 0);
            }
            stepOf(x, JOIN, 0, 0, leaf, leaf + 1, leaf + 2, leaf + 3);
        }
        // 15! / (5 * 5 * 5)
        due("twelve leaves", 1307674368000L / 125, x.orders(stepOf(x, JOIN, 0, 0, 104, 109, 114)));
    }

    private static void ordersOfAChain() {
        BuiltTwice x = new BuiltTwice();
        x.step(JOIN, 0, 0);
        for (int s = 1; s < 24; s++) {
            stepOf(x, JOIN, 0, 0, 100 + s - 1, 100 + s - 1);
        }
        due("a chain of 16", 1, x.orders(15));
        due("a chain of 17", BIG, x.orders(16));
        due("a chain of 24", BIG, x.orders(23));
    }

    private static void built() {
        BuiltTwice x = new BuiltTwice();
        failsInRoom0(x);
        x.step(JOIN, 0, 0);
        due("built in room 0", 2, x.built(0));
        due("built in room 1", 3, x.built(1));
        due("words used in room 0", 1, x.reads(0, 2, 1));
        due("words used in room 1", 33, x.reads(1, 2, 1));
        x.lack(0, 1);
        due("built without the text", 0, x.built(1));
        due("built 8", BAD, x.built(8));
        for (int v : OUTSIDE) {
            due("built " + v, BAD, x.built(v));
        }
    }

    private static void dueBadPairs(String what, BuiltTwice x, java.util.function.ToLongFunction<int[]> call) {
        int[][] bad = {{8, 0, 0}, {0, 8, 0}, {-1, 0, 0}, {0, -1, 0}, {0, 0, -1}, {0, 0, 24},
            {0, 0, x.count(1)}, {Integer.MIN_VALUE, 0, 0}, {0, Integer.MAX_VALUE, 0}, {0, 0, Integer.MIN_VALUE}};
        for (int[] b : bad) {
            due(what + " " + b[0] + " " + b[1] + " " + b[2], BAD, call.applyAsLong(b));
        }
    }

    private static void alike() {
        BuiltTwice x = new BuiltTwice();
        failsInRoom0(x);
        x.step(STAMP, 0, 0);
        due("one fails", 0, x.alike(0, 1, 2));
        due("both fail", 1, x.alike(0, 1, 3));
        due("both fail, one room", 1, x.alike(0, 0, 2));
        due("other bytes", 0, x.alike(1, 0, 0));
        due("other lengths", 0, x.alike(1, 0, 1));
        due("the same", 1, x.alike(0, 2, 0));
        due("itself", 1, x.alike(1, 1, 2));
        textOf(x);
        int empty = stepOf(x, PICK, 0, 0, 102, 2);
        due("no bytes", 0, x.made(1, empty));
        due("failing is not making no bytes", 0, x.alike(0, 1, empty));
        dueBadPairs("alike", x, b -> x.alike(b[0], b[1], b[2]));
    }

    private static void changes() {
        BuiltTwice x = new BuiltTwice();
        due("the classic", 3, x.changes(0, 1, twoThings(x, "kitten", "sitting")));
        due("from nothing", 3, x.changes(0, 1, twoThings(x, "", "abc")));
        due("to nothing", 3, x.changes(0, 1, twoThings(x, "abc", "")));
        due("the same", 0, x.changes(0, 1, twoThings(x, "abc", "abc")));
        due("none to see of it", BAD, x.change(0, 0));
        due("one room", 0, x.changes(1, 1, 0));
        due("moved", 2, x.changes(0, 1, twoThings(x, "abcdef", "bcdefa")));
        int failing = x.step(JOIN, 0, 0);
        due("it fails", NOT, x.changes(0, 1, failing));
        dueBadPairs("changes", x, b -> x.changes(b[0], b[1], b[2]));

        BuiltTwice y = new BuiltTwice();
        failsInRoom0(y);
        due("fails in the first", NOT, y.changes(0, 1, 2));
        due("fails in the second", NOT, y.changes(1, 0, 2));
        changesOfLongThings();
    }

    private static void changesOfLongThings() {
        BuiltTwice x = new BuiltTwice();
        textOfLength(x, 50);
        for (int i = 0; i < 50; i++) {
            x.feed(1, 100 + i);
        }
        x.text();
        stepOf(x, JOIN, 0, 0, 0, 0, 0, 0);
        stepOf(x, JOIN, 0, 0, 1, 1, 1, 1);
        stepOf(x, PICK, 1, 0, 100, 101);
        x.word(1, 0, 1);
        due("all other", 200, x.changes(0, 1, 2));
        dueChange(x, 0, 0, 0, 100);
        dueChange(x, 199, 0, 199, 149);
        due("200 there are", BAD, x.change(200, 0));
        due("200 the same", 0, x.changes(0, 0, 2));
        textOf(x);
        stepOf(x, PICK, 1, 0, 100, 2);
        due("all out", 200, x.changes(0, 1, 3));
        dueChange(x, 199, 1, 199, 0);
        due("all in", 200, x.changes(1, 0, 3));
        dueChange(x, 199, 2, 0, 49);
    }

    private static void change() {
        BuiltTwice x = new BuiltTwice();
        x.changes(0, 1, twoThings(x, "aa", "a"));
        dueChange(x, 0, 1, 1, 0);
        due("no change 1", BAD, x.change(1, 0));
        x.changes(1, 0, 0);
        dueChange(x, 0, 2, 1, 'a');
        x.changes(0, 1, twoThings(x, "ab", "ba"));
        dueChange(x, 0, 0, 0, 'b');
        dueChange(x, 1, 0, 1, 'a');
        x.changes(0, 1, twoThings(x, "xab", "ab"));
        dueChange(x, 0, 1, 0, 0);
        x.changes(1, 0, 2);
        dueChange(x, 0, 2, 0, 'x');
        x.changes(0, 1, twoThings(x, "ab", "c"));
        dueChange(x, 0, 0, 0, 'c');
        dueChange(x, 1, 1, 1, 0);
        x.changes(0, 1, twoThings(x, "abc", "cab"));
        dueChange(x, 0, 2, 0, 'c');
        dueChange(x, 1, 1, 2, 0);
        x.changes(0, 1, twoThings(x, "bca", "abc"));
        dueChange(x, 0, 2, 0, 'a');
        dueChange(x, 1, 1, 2, 0);

        due("what 3", BAD, x.change(0, 3));
        for (int v : OUTSIDE) {
            due("change " + v, BAD, x.change(v, 0));
            due("what " + v, BAD, x.change(0, v));
        }
        changeStays(x);
    }

    private static void changeStays(BuiltTwice x) {
        int failing = x.step(JOIN, 0, 0);
        x.changes(0, 1, failing);
        x.changes(0, 8, 0);
        dueChange(x, 0, 2, 0, 'a');
        x.word(1, 7, 0);
        x.write(0);
        x.alike(0, 1, 0);
        dueChange(x, 1, 1, 2, 0);
        x.changes(0, 0, 0);
        due("the latest has none", BAD, x.change(0, 0));
    }

    private static void cause() {
        BuiltTwice x = new BuiltTwice();
        textOf(x, "ab");
        stepOf(x, JOIN, 0, 0, 0);
        stepOf(x, STAMP, 0, 1, 0);
        stepOf(x, STAMP, 0, 2, 100);
        stepOf(x, JOIN, 0, 0, 102, 101);
        stepOf(x, STRIP, 9, 0, 102);
        stepOf(x, STAMP, 0, 3, 104);
        x.word(1, 2, 9);
        due("the step below", 2, x.cause(0, 1, 3));
        x.word(1, 1, 4);
        due("the least", 1, x.cause(0, 1, 3));
        due("the least is not used", 2, x.cause(0, 1, 2));
        due("itself", 1, x.cause(0, 1, 1));
        due("alike", NOT, x.cause(0, 1, 0));
        due("in one room", NOT, x.cause(1, 1, 3));
        x.word(0, 2, 8);
        x.word(1, 2, 7);
        due("unlike below", 2, x.cause(0, 1, 5));
        int same = stepOf(x, PICK, 0, 0, 103, 100);
        due("unlike below, alike above", NOT, x.cause(0, 1, same));
        int above = stepOf(x, STAMP, 0, 4, 100 + same);
        x.word(1, 4, 1);
        due("the least unlike one, though alike between", 1, x.cause(0, 1, above));
        dueBadPairs("cause", x, b -> x.cause(b[0], b[1], b[2]));

        BuiltTwice y = new BuiltTwice();
        failsInRoom0(y);
        due("one fails", 0, y.cause(0, 1, 2));
    }

    private static void fix() {
        BuiltTwice x = new BuiltTwice();
        textOf(x, "a");
        textOf(x, "b");
        stepOf(x, STAMP, 0, 1, 0);
        stepOf(x, STAMP, 0, 3, 100);
        x.word(1, 1, 5);
        x.word(1, 2, 5);
        due("one word", 2, x.fix(0, 1, 1));
        due("the other way", 2, x.fix(1, 0, 1));
        x.word(1, 3, 5);
        due("two words", 10, x.fix(0, 1, 1));
        due("one of the two", 2, x.fix(0, 1, 0));
        x.word(1, 0, 9);
        due("word 0 of three", 1, x.fix(0, 1, stepOf(x, PICK, 1, 0, 0, 101)));
        int all = stepOf(x, STAMP, 0, 0, 0);
        for (int w = 1; w < 8; w++) {
            x.word(1, w, 100 + w);
            all = stepOf(x, STAMP, 0, w, 100 + all);
        }
        due("all words", 255, x.fix(0, 1, all));
        due("alike", 0, x.fix(0, 2, 1));
        due("one room", 0, x.fix(1, 1, 1));
        x.word(2, 6, 4);
        due("a word read is unlike, what is made is not", 0, x.fix(0, 2, stepOf(x, PACK, 0, 6, 0, 1)));
        fixTheLeast();
        dueBadPairs("fix", x, b -> x.fix(b[0], b[1], b[2]));
    }

    private static void fixTheLeast() {
        BuiltTwice x = new BuiltTwice();
        textOf(x, "a");
        textOf(x, "b");
        // room 0 has a; b is there only if words 2 and 5 both are 1, so either one mends it
        stepOf(x, PICK, 1, 2, 0, 1);
        stepOf(x, PICK, 1, 5, 0, 100);
        x.word(1, 2, 1);
        x.word(1, 5, 1);
        due("the lesser of two", 4, x.fix(0, 1, 1));
        // by word 7 alone text 1 is picked, as in room 0; to pick step 3 as room 1 does, its stamps are needed too
        stepOf(x, STAMP, 0, 0, 0);
        stepOf(x, STAMP, 0, 1, 102);
        stepOf(x, PICK, 1, 7, 1, 103);
        x.word(1, 0, 1);
        x.word(1, 1, 1);
        x.word(1, 7, 1);
        due("word 7 alone", 128, x.fix(0, 1, 4));
        due("nothing less will do", 128 | 3, x.fix(1, 0, 4));
    }

    private static void stable() {
        BuiltTwice x = new BuiltTwice();
        textOf(x, "a");
        textOf(x, "b");
        stepOf(x, PICK, 200, 3, 0, 1);
        stepOf(x, STAMP, 0, 1, 0);
        due("below 200", 1, x.stable(0, 0, 3, 199));
        due("at 200", 0, x.stable(0, 0, 3, 200));
        due("another word", 1, x.stable(0, 0, 4, 255));
        x.word(1, 3, 255);
        due("it is there otherwise", 0, x.stable(1, 0, 3, 0));
        x.word(1, 1, 1);
        due("its own value does not mend the others", 0, x.stable(1, 1, 1, 0));
        due("its own value", 1, x.stable(0, 1, 1, 0));
        due("failing is stable", 1, x.stable(0, x.step(STAMP, 0, 0), 0, 255));
        due("the word stays", 255, x.word(1, 3, 255));
        due("n 256", BAD, x.stable(0, 0, 0, 256));
        due("n -1", BAD, x.stable(0, 0, 0, -1));
        due("stable word 8", BAD, x.stable(0, 0, 8, 0));
        due("stable word -1", BAD, x.stable(0, 0, -1, 0));
        due("stable room 8", BAD, x.stable(8, 0, 0, 0));
        due("stable room -1", BAD, x.stable(-1, 0, 0, 0));
        due("stable no step", BAD, x.stable(0, 3, 0, 0));
        due("stable step -1", BAD, x.stable(0, -1, 0, 0));
    }

    private static void breaks() {
        BuiltTwice x = new BuiltTwice();
        textOf(x, "a");
        textOf(x, "b");
        stepOf(x, PICK, 255, 3, 0, 1);
        stepOf(x, STAMP, 0, 1, 0);
        due("breaks at", 255, x.breaks(0, 0, 3));
        x.word(1, 3, 255);
        due("breaks the other way", 0, x.breaks(1, 0, 3));
        due("breaks a stamp of 0", 1, x.breaks(0, 1, 1));
        x.word(1, 1, 9);
        due("breaks a stamp of 9", 0, x.breaks(1, 1, 1));
        due("none", NOT, x.breaks(0, 0, 1));
        due("one input", NOT, x.breaks(0, stepOf(x, PACK, 0, 0, 0), 0));
        due("two inputs", 1, x.breaks(0, stepOf(x, PACK, 0, 0, 0, 1), 0));
        due("breaks word 8", BAD, x.breaks(0, 0, 8));
        due("breaks word -1", BAD, x.breaks(0, 0, -1));
        due("breaks room 8", BAD, x.breaks(8, 0, 0));
        due("breaks room -1", BAD, x.breaks(-1, 0, 0));
        due("breaks no step", BAD, x.breaks(0, 4, 0));
        due("breaks step -1", BAD, x.breaks(0, -1, 0));
        BuiltTwice y = new BuiltTwice();
        failsInRoom0(y);
        due("by not failing", 77, y.breaks(0, 2, 0));
    }

    private static void rooms() {
        BuiltTwice x = new BuiltTwice();
        textOf(x, "a");
        stepOf(x, JOIN, 0, 0, 0);
        stepOf(x, STAMP, 0, 0, 0);
        stepOf(x, STAMP, 0, 1, 101);
        stepOf(x, PACK, 0, 2, 102);
        due("without words", 8, x.rooms(0, 0x58));
        due("all alike", NOT, x.rooms(1, 255));
        x.word(3, 0, 1);
        due("least with room 3", 9, x.rooms(1, 255));
        due("of a told set", 0x28, x.rooms(1, 0xE8));
        due("one room told", NOT, x.rooms(1, 8));
        due("not enough", NOT, x.rooms(2, 255));
        x.word(5, 0, 1);
        x.word(5, 1, 1);
        x.word(2, 2, 1);
        due("two in whom both are unlike", 0x21, x.rooms(2, 255));
        due("two of those told", 0x60, x.rooms(2, 0xE8));
        due("not of these", NOT, x.rooms(2, 0x28));
        due("two by whom three are unlike", 0x24, x.rooms(3, 255));
        x.word(2, 0, 1);
        due("three rooms", 0x25, x.rooms(3, 0x25));
        due("three rooms, the least", 0x25, x.rooms(3, 0x3D));
        for (int w = 0; w < 3; w++) {
            x.word(7, w, 2);
        }
        due("fewer, though a greater mask", 0x81, x.rooms(3, 0xA5));
        due("room 0 told", 1, x.rooms(0, 1));
        due("all told", 1, x.rooms(0, 255));
        due("set 0", BAD, x.rooms(0, 0));
        due("set 256", BAD, x.rooms(0, 256));
        due("set -1", BAD, x.rooms(0, -1));
        due("rooms no step", BAD, x.rooms(4, 1));
        due("rooms step -1", BAD, x.rooms(-1, 1));

        BuiltTwice y = new BuiltTwice();
        failsInRoom0(y);
        due("just what room 0 uses counts", 6, y.rooms(2, 0xFE));
        roomsAllEight();
    }

    private static void roomsAllEight() {
        BuiltTwice x = new BuiltTwice();
        int s = stepOf(x, STAMP, 0, 0, textOf(x, "a"));
        x.word(0, 0, 1);
        for (int w = 1; w < 8; w++) {
            s = stepOf(x, STAMP, 0, w, 100 + s);
            x.word(w, w, 1);
        }
        due("each word is unlike in one room only", 255, x.rooms(s, 255));
        due("one of them is not told", NOT, x.rooms(s, 254));
    }

    private static void maker() {
        BuiltTwice x = new BuiltTwice();
        due("from no text", BAD, x.maker(0, 1, 0));
        textOf(x, "a");
        due("maker", 1, x.maker(0, 29, 0));
        due("by itself", 1, x.maker(29, 29, 0));
        due("no seeds", 28, x.count(2));
        due("a seed", 1, x.maker(29, -1, 99));
        due("a seed again", 1, x.maker(29, -1, -7));
        due("seeds", 29, x.count(2));
        due("maker 30", BAD, x.maker(30, 0, 0));
        due("maker -1", BAD, x.maker(-1, 0, 0));
        due("maker 30 a seed", BAD, x.maker(30, -1, 0));
        due("by 30", BAD, x.maker(0, 30, 0));
        due("by -2", BAD, x.maker(0, -2, 0));
        due("text 1", BAD, x.maker(0, 1, 1));
        due("text -1", BAD, x.maker(0, 1, -1));
        due("it stays", 1, x.down(0));
    }

    private static void down() {
        BuiltTwice x = new BuiltTwice();
        textOf(x, "a");
        for (int m = 0; m < 29; m++) {
            x.maker(m, m + 1, 0);
        }
        due("down", 29, x.down(0));
        due("down of the seed", 0, x.down(29));
        x.maker(29, 10, 0);
        due("into a ring", RING, x.down(0));
        due("in a ring", RING, x.down(29));
        x.maker(5, -1, 0);
        due("to a seed ahead of it", 5, x.down(0));
        x.maker(4, 4, 0);
        due("made by itself", RING, x.down(4));
        due("down 30", BAD, x.down(30));
        for (int v : OUTSIDE) {
            due("down " + v, BAD, x.down(v));
        }
    }

    private static void ring() {
        BuiltTwice x = new BuiltTwice();
        textOf(x, "a");
        x.maker(0, 9, 0);
        x.maker(9, 4, 0);
        x.maker(4, 7, 0);
        x.maker(7, 4, 0);
        x.maker(20, 21, 0);
        int[] want = {4, 7, BAD, BAD};
        for (int i = 0; i < want.length; i++) {
            due("ring from 0, " + i, want[i], x.ring(0, i));
        }
        due("ring from 7, 0", 7, x.ring(7, 0));
        due("ring from 7, 1", 4, x.ring(7, 1));
        due("ring, far", BAD, x.ring(7, Integer.MAX_VALUE));
        due("ring, -1", BAD, x.ring(7, -1));
        due("ring, least", BAD, x.ring(7, Integer.MIN_VALUE));
        due("leads to a seed", NOT, x.ring(20, 0));
        due("is a seed", NOT, x.ring(21, 1));
        due("leads to a seed, -1", NOT, x.ring(20, -1));
        due("a seed, -1", NOT, x.ring(21, -1));
        due("a seed, least", NOT, x.ring(21, Integer.MIN_VALUE));
        due("a seed, far", NOT, x.ring(21, Integer.MAX_VALUE));
        due("a new object's maker, -1", NOT, new BuiltTwice().ring(0, -1));
        due("ring of 30", BAD, x.ring(30, 0));
        due("ring of -1", BAD, x.ring(-1, 0));
        due("ring of -1, -1", BAD, x.ring(-1, -1));
        for (int m = 0; m < 30; m++) {
            x.maker(m, (m + 29) % 30, 0);
        }
        due("all in a ring, 0", 13, x.ring(13, 0));
        due("all in a ring, 29", 14, x.ring(13, 29));
        due("all in a ring, 30", BAD, x.ring(13, 30));
    }

    private static void needs() {
        BuiltTwice x = new BuiltTwice();
        textOf(x, "a");
        textOf(x, "a");
        textOf(x, "c");
        x.maker(0, 1, 0);
        x.maker(1, 2, 1);
        x.maker(2, 3, 0);
        due("needs, two of like bytes", 2, x.needs(0, 0));
        due("none lacking", 0, x.needs(0, 1));
        x.lack(0, 1);
        x.lack(2, 1);
        due("one lacking", 1, x.needs(0, 1));
        due("of a seed", 0, x.needs(3, 0));
        due("of the last", 1, x.needs(2, 0));
        x.maker(0, 1, 2);
        due("of three", 3, x.needs(0, 0));
        x.maker(0, 1, 0);
        x.maker(3, 2, 2);
        due("round a ring", 3, x.needs(0, 0));
        due("round a ring, lacking", 2, x.needs(0, 1));
        due("in a ring", 2, x.needs(3, 0));
        x.maker(3, -1, 1);
        due("a seed needs none", 2, x.needs(0, 0));
        due("needs what 2", BAD, x.needs(0, 2));
        due("needs what -1", BAD, x.needs(0, -1));
        due("needs of 30", BAD, x.needs(30, 0));
        due("needs of -1", BAD, x.needs(-1, 0));
    }

    private static void forge() {
        BuiltTwice x = new BuiltTwice();
        due("forge", 0, x.forge(29, 1));
        due("forge again", 1, x.forge(29, 1));
        due("forged", 1, x.count(3));
        due("forge 2", BAD, x.forge(29, 2));
        due("forge -1", BAD, x.forge(29, -1));
        due("forge of 30", BAD, x.forge(30, 0));
        due("forge of -1", BAD, x.forge(-1, 0));
        due("not forged", 1, x.forge(29, 0));
        due("not forged again", 0, x.forge(29, 0));
    }

    private static void trust() {
        BuiltTwice x = new BuiltTwice();
        textOf(x, "a");
        x.maker(0, 1, 0);
        x.maker(1, 2, 0);
        due("trust", 1, x.trust(0));
        x.forge(2, 1);
        due("its seed is forged", 0, x.trust(0));
        due("it is forged itself", 0, x.trust(2));
        x.forge(2, 0);
        x.forge(0, 1);
        due("just one above", 1, x.trust(1));
        x.maker(2, 0, 0);
        due("round a ring", 0, x.trust(1));
        due("trust of 30", BAD, x.trust(30));
        due("trust of -1", BAD, x.trust(-1));
    }

    private static void heirs() {
        BuiltTwice x = new BuiltTwice();
        textOf(x, "a");
        due("none", 0, x.heirs(0));
        x.maker(0, 1, 0);
        x.maker(1, 2, 0);
        x.maker(5, 1, 0);
        due("of the seed", 3, x.heirs(2));
        due("between", 2, x.heirs(1));
        due("of the last", 0, x.heirs(5));
        x.maker(2, 1, 0);
        due("in a ring", 3, x.heirs(1));
        x.maker(9, 9, 0);
        due("it is not counted", 0, x.heirs(9));
        for (int m = 0; m < 30; m++) {
            x.maker(m, 29, 0);
        }
        due("all", 29, x.heirs(29));
        due("heirs of 30", BAD, x.heirs(30));
        due("heirs of -1", BAD, x.heirs(-1));
    }

    private static void count() {
        BuiltTwice x = new BuiltTwice();
        textOf(x, "a");
        textOf(x, "b");
        textOf(x, "c");
        x.step(0, 0, 0);
        x.step(0, 0, 0);
        x.maker(7, 7, 0);
        x.forge(3, 1);
        x.forge(4, 1);
        x.forge(5, 1);
        x.forge(6, 1);
        x.feed(4, 0);
        x.feed(1, 0);
        x.lack(1, 1);
        int[] want = {3, 2, 29, 4, 5, 1};
        for (int what = 0; what < want.length; what++) {
            due("count " + what, want[what], x.count(what));
        }
        due("count 6", BAD, x.count(6));
        for (int v : OUTSIDE) {
            due("count " + v, BAD, x.count(v));
        }
    }

    private static void fullBench() {
        BuiltTwice x = new BuiltTwice();
        for (int t = 0; t < 20; t++) {
            textOf(x, t);
        }
        for (int s = 0; s < 24; s++) {
            stepOf(x, s < 20 ? JOIN : STAMP, 0, s % 8, s % 20, s < 12 ? 19 : 100 + s - 12, 0, 0);
        }
        due("all built", 24, x.built(7));
        due("made by the last", 8, x.made(7, 23));
        due("read by the last", 128, x.reads(7, 23, 1));
        due("used by the last", 1 << 23 | 1 << 11, x.uses(23, 0));
        due("texts of the last", 1 << 19 | 1 << 11 | 1 << 3 | 1, x.uses(23, 1));
        due("breaks the last", 1, x.breaks(7, 23, 7));
        due("orders of the last", 1, x.orders(23));
        x.lack(19, 1);
        due("without text 19", 0, x.built(7));
    }

    private static void refusedCallsChangeNothing() {
        BuiltTwice x = new BuiltTwice();
        textOf(x, "abc");
        stepOf(x, STAMP, 0, 0, 0);
        x.word(0, 0, 7);
        x.maker(1, 2, 0);
        x.feed(0, 1);
        x.lack(0, 2);
        x.word(0, 0, 256);
        x.copy(1, 8);
        x.step(0, 0, 8);
        x.need(0, 100);
        x.maker(1, 30, 0);
        x.forge(1, 2);
        x.stable(0, 0, 0, 255);
        x.breaks(0, 0, 0);
        x.fix(1, 0, 0);
        due("tape", 0, x.count(4));
        due("lacking", 0, x.count(5));
        due("steps", 1, x.count(1));
        due("down", 1, x.down(1));
        due("forged", 0, x.count(3));
        dueBytes("thing", x, 0, 0, 'a', 'b', 'c', 7);
        dueBytes("thing", x, 1, 0, 'a', 'b', 'c', 0);
    }
}
