import java.util.ArrayList;
import java.util.LinkedHashMap;
import java.util.List;
import java.util.Map;

/** What is refused changes nothing: beside an object with the refused call stands one without it. */
public final class RefusedTest extends Bench {
    /** A call on an object. */
    private interface Call {
        long on(BuiltTwice x);
    }

    /** How an object comes to be. */
    private interface Start {
        BuiltTwice made();
    }

    private final Map<String, Call> calls = new LinkedHashMap<>();

    public static void main(String[] args) {
        runAll(RefusedTest.class);
    }

    // ---- two objects from which all is tried

    /** Something of each kind, and room for more of it. */
    private static BuiltTwice ordinary() {
        BuiltTwice x = new BuiltTwice();
        textOf(x, "abc");
        textOf(x, "abde");
        textOf(x, "f");
        x.lack(2, 1);
        stepOf(x, PICK, 1, 7, 0, 1);
        stepOf(x, STAMP, 0, 0, STEP + 0);
        x.step(STAMP, 0, 3);
        stepOf(x, PACK, 0, 1, 0, 0, STEP + 1, STEP + 1);
        stepOf(x, JOIN, 0, 0, 2);
        x.word(1, 7, 1);
        x.word(1, 0, 5);
        x.word(2, 1, 3);
        int[][] made = {{9, 8, 0}, {8, 3, 1}, {3, 7, 0}, {7, 5, 0}, {5, 3, 2}, {2, 2, 1}, {1, 0, 1}};
        for (int[] m : made) {
            x.maker(m[0], m[1], m[2]);
        }
        x.forge(4, 1);
        x.forge(5, 1);
        x.changes(0, 1, 1);
        feedAll(x, 7, 8);
        return x;
    }

    /** As many of each kind as there may be. */
    private static BuiltTwice full() {
        BuiltTwice x = new BuiltTwice();
        for (int t = 0; t < 20; t++) {
            textOf(x, 10 + t);
        }
        for (int s = 0; s < 24; s++) {
            stepOf(x, s % 3 == 0 ? STAMP : JOIN, 0, s % 8, s == 0 ? 0 : STEP + s - 1);
        }
        x.need(23, 1);
        x.need(23, 2);
        x.need(23, 3);
        for (int m = 0; m < 30; m++) {
            x.maker(m, (m + 1) % 30, m % 20);
        }
        for (int w = 0; w < 8; w++) {
            x.word(1, w, 255);
        }
        x.changes(0, 1, 23);
        feedMany(x, 60, 3);
        return x;
    }

    // ---- all that can be seen of an object, in parts, as an object is used for 512 calls at most

    private static List<Long> seen(BuiltTwice x, int part) {
        List<Long> all = new ArrayList<>();
        if (part == 0) {
            seeSteps(x, all);
        } else if (part == 1) {
            seeMakersAndChanges(x, all);
        } else {
            seeWordsInputsAndTape(x, all);
        }
        return all;
    }

    private static void seeSteps(BuiltTwice x, List<Long> all) {
        int steps = x.count(1);
        for (int s = 0; s < steps; s++) {
            all.add((long) x.uses(s, 0));
            all.add((long) x.uses(s, 1));
            all.add((long) x.reads(0, s, 0));
            for (int room = 0; room < 3; room++) {
                int length = x.made(room, s);
                all.add((long) length);
                for (int i = 0; i < Math.min(length, 3); i++) {
                    all.add((long) x.at(room, s, i));
                }
            }
        }
    }

    private static void seeMakersAndChanges(BuiltTwice x, List<Long> all) {
        for (int what = 0; what < 6; what++) {
            all.add((long) x.count(what));
        }
        for (int i = 0; i < 15; i++) {
            for (int what = 0; what < 3; what++) {
                all.add((long) x.change(i, what));
            }
        }
        for (int m = 0; m < 30; m++) {
            all.add((long) x.down(m));
            all.add((long) x.ring(m, 0));
            all.add((long) x.needs(m, 0));
            all.add((long) x.needs(m, 1));
            all.add((long) x.heirs(m));
            all.add((long) x.forge(m, 0));
        }
    }

    private static void seeWordsInputsAndTape(BuiltTwice x, List<Long> all) {
        for (int i = 0; i < 64; i++) {
            all.add((long) x.word(i / 8, i % 8, 0));
        }
        int texts = x.count(0);
        for (int t = 0; t < texts; t++) {
            all.add((long) x.lack(t, 0));
        }
        all.add((long) x.write(0));
        int steps = x.count(1);
        for (int s = 0; s < steps; s++) {
            all.add((long) x.made(0, s));
            all.add((long) x.need(s, 0));
        }
        for (int i = 0; i < 61; i++) {
            all.add((long) x.at(0, 0, i));
        }
        all.add((long) x.text());
        all.add((long) x.step(JOIN, 0, 0));
    }

    private void dueUnchanged(Start start) {
        List<List<Long>> want = new ArrayList<>();
        for (int part = 0; part < 3; part++) {
            want.add(seen(start.made(), part));
        }
        for (Map.Entry<String, Call> call : calls.entrySet()) {
            for (int part = 0; part < 3; part++) {
                BuiltTwice x = start.made();
                call.getValue().on(x);
                List<Long> got = seen(x, part);
                due("as without " + call.getKey(), 1, got.equals(want.get(part)) ? 1 : 0);
            }
        }
    }

    private void dueAnswer(Start start, long answer) {
        for (Map.Entry<String, Call> call : calls.entrySet()) {
            due(call.getKey(), answer, call.getValue().on(start.made()));
        }
    }

    // ---- what is tried

    private RefusedTest badOfWhatThereIs() {
        calls.put("feed n 0", x -> x.feed(0, 1));
        calls.put("feed n 5", x -> x.feed(5, 1));
        calls.put("write -1", x -> x.write(-1));
        calls.put("write 20", x -> x.write(20));
        calls.put("lack text -1", x -> x.lack(-1, 1));
        calls.put("lack text 20", x -> x.lack(20, 1));
        calls.put("lack is 2", x -> x.lack(0, 2));
        calls.put("lack is -1", x -> x.lack(0, -1));
        calls.put("word room 8", x -> x.word(8, 0, 1));
        calls.put("word room -1", x -> x.word(-1, 0, 1));
        calls.put("word 8", x -> x.word(0, 8, 1));
        calls.put("word -1", x -> x.word(1, -1, 1));
        calls.put("word v 256", x -> x.word(0, 0, 256));
        calls.put("word v -1", x -> x.word(0, 0, -1));
        calls.put("copy from 8", x -> x.copy(8, 0));
        calls.put("copy to 8", x -> x.copy(1, 8));
        calls.put("copy from -1", x -> x.copy(-1, 0));
        calls.put("copy to -1", x -> x.copy(1, -1));
        calls.put("step tool 8", x -> x.step(8, 0, 0));
        calls.put("step a 256", x -> x.step(0, 256, 0));
        calls.put("step b 8", x -> x.step(0, 0, 8));
        calls.put("need of step 24", x -> x.need(24, 0));
        calls.put("need of step -1", x -> x.need(-1, 0));
        calls.put("need of itself", x -> x.need(2, 102));
        calls.put("need of a greater one", x -> x.need(1, 102));
        calls.put("need text 20", x -> x.need(2, 20));
        calls.put("need 99", x -> x.need(2, 99));
        calls.put("need -1", x -> x.need(2, -1));
        return this;
    }

    private RefusedTest badOfBuilding() {
        calls.put("made room 8", x -> x.made(8, 0));
        calls.put("made step 24", x -> x.made(0, 24));
        calls.put("at place 200", x -> x.at(0, 0, 200));
        calls.put("at behind its end", x -> x.at(0, 0, 199));
        calls.put("reads what 2", x -> x.reads(0, 0, 2));
        calls.put("uses what 2", x -> x.uses(0, 2));
        calls.put("orders 24", x -> x.orders(24));
        calls.put("built 8", x -> x.built(8));
        return this;
    }

    private RefusedTest badOfSideBySide() {
        calls.put("alike room 8", x -> x.alike(0, 8, 0));
        calls.put("changes room 8", x -> x.changes(8, 1, 0));
        calls.put("changes to room 8", x -> x.changes(0, 8, 0));
        calls.put("changes step 24", x -> x.changes(1, 0, 24));
        calls.put("change -1", x -> x.change(-1, 0));
        calls.put("change 200", x -> x.change(200, 0));
        calls.put("change what 3", x -> x.change(0, 3));
        calls.put("cause room -1", x -> x.cause(-1, 1, 0));
        calls.put("fix room 8", x -> x.fix(0, 8, 0));
        calls.put("fix step 24", x -> x.fix(0, 1, 24));
        calls.put("stable n 256", x -> x.stable(1, 1, 0, 256));
        calls.put("stable word 8", x -> x.stable(1, 1, 8, 0));
        calls.put("breaks word 8", x -> x.breaks(1, 1, 8));
        calls.put("rooms set 0", x -> x.rooms(0, 0));
        calls.put("rooms set 256", x -> x.rooms(0, 256));
        return this;
    }

    private RefusedTest badOfMakers() {
        calls.put("maker 30", x -> x.maker(30, 0, 0));
        calls.put("maker -1", x -> x.maker(-1, 0, 0));
        calls.put("maker by 30", x -> x.maker(9, 30, 0));
        calls.put("maker by -2", x -> x.maker(9, -2, 0));
        calls.put("maker text 20", x -> x.maker(9, 1, 20));
        calls.put("maker text -1", x -> x.maker(9, 1, -1));
        calls.put("down 30", x -> x.down(30));
        calls.put("ring of 30", x -> x.ring(30, 0));
        calls.put("ring, none such", x -> x.ring(9, 30));
        calls.put("needs what 2", x -> x.needs(9, 2));
        calls.put("forge 30", x -> x.forge(30, 1));
        calls.put("forge -1", x -> x.forge(-1, 1));
        calls.put("forge is 2", x -> x.forge(9, 2));
        calls.put("forge is -1", x -> x.forge(9, -1));
        calls.put("trust 30", x -> x.trust(30));
        calls.put("heirs 30", x -> x.heirs(30));
        calls.put("count 6", x -> x.count(6));
        return this;
    }

    private RefusedTest notOfOrdinary() {
        calls.put("need of an input", x -> x.need(0, 0));
        calls.put("need of an input, a step", x -> x.need(1, 100));
        calls.put("made, it fails", x -> x.made(0, 2));
        calls.put("made, its text lacks", x -> x.made(0, 4));
        calls.put("at, it fails", x -> x.at(0, 2, 0));
        calls.put("changes, it fails", x -> x.changes(0, 1, 2));
        calls.put("changes, its text lacks", x -> x.changes(0, 1, 4));
        calls.put("cause, it is alike", x -> x.cause(0, 2, 1));
        calls.put("cause, both fail", x -> x.cause(0, 1, 2));
        calls.put("breaks, none", x -> x.breaks(1, 1, 6));
        calls.put("breaks, it fails", x -> x.breaks(1, 2, 3));
        calls.put("rooms, none", x -> x.rooms(1, 1));
        calls.put("ring, to a seed", x -> x.ring(1, 0));
        return this;
    }

    private RefusedTest asking() {
        for (int i = 0; i < 2; i++) {
            int r = i;
            calls.put("made in " + r, x -> x.made(r, 1));
            calls.put("at in " + r, x -> x.at(r, 1, 1));
            calls.put("reads in " + r, x -> x.reads(r, 1, r));
            calls.put("uses " + r, x -> x.uses(1, r));
            calls.put("built in " + r, x -> x.built(r));
            calls.put("alike " + r, x -> x.alike(r, 1, 1));
            calls.put("cause " + r, x -> x.cause(r, 1 - r, 1));
            calls.put("fix " + r, x -> x.fix(r, 1 - r, 1));
            calls.put("stable " + r, x -> x.stable(r, 1, 7, 255));
            calls.put("breaks " + r, x -> x.breaks(r, 1, 7));
            calls.put("needs " + r, x -> x.needs(9, r));
            calls.put("trust " + r, x -> x.trust(8 + r));
            calls.put("heirs " + r, x -> x.heirs(3 + r));
            calls.put("down " + r, x -> x.down(r));
            calls.put("ring " + r, x -> x.ring(9, r));
            calls.put("change " + r, x -> x.change(r, r));
        }
        calls.put("orders", x -> x.orders(3));
        calls.put("rooms", x -> x.rooms(1, 255));
        calls.put("count", x -> x.count(4));
        return this;
    }

    // ---- the sentences

    private static RefusedTest allBad() {
        return new RefusedTest().badOfWhatThereIs().badOfBuilding().badOfSideBySide().badOfMakers();
    }

    @Says("BAD (-1): no such text, room, step, maker, or a number is not as said;")
    private static void badIsAnswered() {
        allBad().dueAnswer(RefusedTest::ordinary, BAD);
        allBad().dueAnswer(RefusedTest::full, BAD);
        due("BAD", -1, BuiltTwice.BAD);
    }

    @Says("NOT (-2): as told; FULL (-3); BIG (-4); RING (-5).")
    private static void theOthersAreAnswered() {
        new RefusedTest().notOfOrdinary().dueAnswer(RefusedTest::ordinary, NOT);
        due("NOT", -2, BuiltTwice.NOT);
        due("FULL", -3, BuiltTwice.FULL);
        due("BIG", -4, BuiltTwice.BIG);
        due("RING", -5, BuiltTwice.RING);
    }

    @Says("What is answered so changes nothing.")
    private static void whatIsBadChangesNothing() {
        allBad().dueUnchanged(RefusedTest::ordinary);
        allBad().dueUnchanged(RefusedTest::full);
    }

    @Says("What is answered so changes nothing.")
    private static void whatIsNotChangesNothing() {
        new RefusedTest().notOfOrdinary().dueUnchanged(RefusedTest::ordinary);
    }

    @Says("What is answered so changes nothing.")
    private static void whatIsFullChangesNothing() {
        RefusedTest few = new RefusedTest();
        few.calls.put("need of a fifth, a text", x -> x.need(3, 0));
        few.calls.put("need of a fifth, a step", x -> x.need(3, 102));
        few.dueAnswer(RefusedTest::ordinary, FULL);
        few.dueUnchanged(RefusedTest::ordinary);
        RefusedTest many = new RefusedTest();
        many.calls.put("feed 1", x -> x.feed(1, 9));
        many.calls.put("feed 4", x -> x.feed(4, 9));
        many.calls.put("text", BuiltTwice::text);
        many.calls.put("step", x -> x.step(JOIN, 0, 0));
        many.calls.put("need of a fifth", x -> x.need(23, 0));
        many.dueAnswer(RefusedTest::full, FULL);
        many.dueUnchanged(RefusedTest::full);
    }

    @Says("What is answered so changes nothing.")
    private static void whatIsBigOrRingChangesNothing() {
        RefusedTest big = new RefusedTest();
        big.calls.put("orders of 17", x -> x.orders(16));
        big.calls.put("orders of 24", x -> x.orders(23));
        big.dueAnswer(RefusedTest::full, BIG);
        big.dueUnchanged(RefusedTest::full);
        RefusedTest ring = new RefusedTest();
        ring.calls.put("down", x -> x.down(9));
        ring.dueAnswer(RefusedTest::ordinary, RING);
        ring.dueAnswer(RefusedTest::full, RING);
        ring.dueUnchanged(RefusedTest::ordinary);
        ring.dueUnchanged(RefusedTest::full);
    }

    @Says("Nothing is promised beyond the answers and state changes described above,")
    private static void whatJustAsksChangesNothing() {
        new RefusedTest().asking().dueUnchanged(RefusedTest::ordinary);
    }
}
