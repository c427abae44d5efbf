import java.lang.reflect.Array;
import java.lang.reflect.Field;
import java.lang.reflect.Modifier;
import java.util.Collections;
import java.util.IdentityHashMap;
import java.util.Set;

/**
 * All calls of one run live in one room, where nothing is ever given back: so many objects and arrays, and
 * so many fields and elements in all. What objects keep is counted after each call, whether it is kept later or not.
 */
public final class WeightTest extends Bench {
    private static final int CALLS = 512, MOST_OBJECTS = 600_000, MOST_CELLS = 7_300_000;

    private final Set<Object> seen = Collections.newSetFromMap(new IdentityHashMap<>());
    private final Set<Object> walked = Collections.newSetFromMap(new IdentityHashMap<>());
    private int calls = 0;
    private long cells = 0;

    public static void main(String[] args) throws IllegalAccessException {
        nothingButNewObjects();
        oneFullObject();
        ordersOfManyObjects();
        thingsOfManyObjects();
        end();
    }

    private static void nothingButNewObjects() throws IllegalAccessException {
        WeightTest run = new WeightTest();
        while (run.calls < CALLS) {
            run.weigh(new BuiltTwice());
        }
        run.dueLight("a run that does nothing but make objects");
    }

    private static void oneFullObject() throws IllegalAccessException {
        WeightTest run = new WeightTest();
        BuiltTwice x = new BuiltTwice();
        for (int t = 0; t < 20; t++) {
            textOf(x, t);
            run.weigh(x);
        }
        for (int s = 0; s < 24; s++) {
            run.weighStep(x, s);
            x.word(1, s % 8, s);
        }
        for (int s = 0; s < 24; s++) {
            x.changes(0, 1, s);
            x.fix(0, 1, s);
            x.breaks(0, s, s % 8);
            x.rooms(s, 255);
            run.weigh(x);
        }
        run.dueLight("a run that fills one object");
        long kept = run.cells;
        for (int s = 0; s < 24; s++) {
            x.orders(s);
            x.changes(1, 0, s);
            run.weigh(x);
        }
        due("what was made once is used again", kept, run.cells);
    }

    private static void ordersOfManyObjects() throws IllegalAccessException {
        WeightTest run = new WeightTest();
        while (run.calls < CALLS) {
            BuiltTwice x = new BuiltTwice();
            for (int s = 0; s < 17; s++) {
                run.weighStep(x, s);
            }
        }
        run.dueLight("a run that counts the orders of as many steps as may be, again and again");
    }

    private static void thingsOfManyObjects() throws IllegalAccessException {
        WeightTest run = new WeightTest();
        while (run.calls < CALLS) {
            BuiltTwice x = new BuiltTwice();
            textOf(x, "a");
            stepOf(x, STAMP, 0, 0, 0);
            x.changes(0, 1, 0);
            // no run comes to a thing of an object that it makes by fewer calls
            run.calls += 4;
            run.weigh(x);
        }
        run.dueLight("a run that makes a thing in each of its objects");
    }

    /** A step more, behind the one before it: three calls. */
    private void weighStep(BuiltTwice x, int s) throws IllegalAccessException {
        due("step " + s, s, x.step(s % 8, 1, s % 8));
        x.need(s, s == 0 ? 0 : STEP + s - 1);
        due("orders of step " + s, s < 16 ? 1 : BIG, x.orders(s));
        calls += 2;
        weigh(x);
    }

    private void weigh(BuiltTwice x) throws IllegalAccessException {
        calls++;
        walked.clear();
        walk(x);
    }

    /** What was seen before is gone through again: it may have got something new. */
    private void walk(Object o) throws IllegalAccessException {
        if (o == null || !walked.add(o)) {
            return;
        }
        boolean isNew = seen.add(o);
        if (o.getClass().isArray()) {
            cells += isNew ? Array.getLength(o) : 0;
            walkElements(o);
            return;
        }
        for (Field f : o.getClass().getDeclaredFields()) {
            if (!Modifier.isStatic(f.getModifiers())) {
                cells += isNew ? 1 : 0;
                f.setAccessible(true);
                walk(f.getType().isPrimitive() ? null : f.get(o));
            }
        }
    }

    private void walkElements(Object array) throws IllegalAccessException {
        if (array instanceof Object[] all) {
            for (Object o : all) {
                walk(o);
            }
        }
    }

    private void dueLight(String what) {
        due(what + ": " + seen.size() + " objects", 1, seen.size() <= MOST_OBJECTS ? 1 : 0);
        due(what + ": " + cells + " fields and elements", 1, cells <= MOST_CELLS ? 1 : 0);
    }
}
