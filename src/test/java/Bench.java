import java.lang.reflect.InvocationTargetException;
import java.lang.reflect.Method;
import java.util.Arrays;
import java.util.Comparator;
import java.util.function.IntToLongFunction;

/** What the tests share: answers that are due are told here, and small things are made. */
abstract class Bench {
    static final int BAD = -1, NOT = -2, FULL = -3, BIG = -4, RING = -5;
    static final int JOIN = 0, STAMP = 1, PACK = 2, STRIP = 3, MASK = 4, PICK = 5, SORT = 6, SIGN = 7;
    static final int MIN = Integer.MIN_VALUE, MAX = Integer.MAX_VALUE;
    static final int[] OUTSIDE = {-1, MIN, MAX};
    /** A step's number and this are an input. */
    static final int STEP = 100;

    private static int wrong = 0;
    private static int checked = 0;
    private static String now = "";

    // ---- what is due

    static void due(String what, long want, long got) {
        checked++;
        if (got != want) {
            wrong++;
            System.out.println(now + what + ": answered " + got + ", due is " + want);
        }
    }

    /** The least and the most are taken; what lies outside of them is BAD. */
    static void dueRange(String what, int least, int most, IntToLongFunction call) {
        for (int v : new int[] {least - 1, most + 1, MIN, MAX, most + 256, least - 256}) {
            due(what + " " + v, BAD, call.applyAsLong(v));
        }
        for (int v : new int[] {least, most}) {
            checked++;
            if (call.applyAsLong(v) == BAD) {
                wrong++;
                System.out.println(now + what + " " + v + ": answered BAD, but it is to be taken");
            }
        }
    }

    static void dueBytes(String what, BuiltTwice x, int room, int step, int... bytes) {
        due(what + ", length", bytes.length, x.made(room, step));
        for (int i = 0; i < bytes.length; i++) {
            due(what + ", byte " + i, bytes[i], x.at(room, step, i));
        }
        due(what + ", behind its end", BAD, x.at(room, step, bytes.length));
    }

    static void dueChange(BuiltTwice x, int i, int kind, int place, int comes) {
        due("change " + i + ", kind", kind, x.change(i, 0));
        due("change " + i + ", place", place, x.change(i, 1));
        due("change " + i + ", byte", comes, x.change(i, 2));
    }

    // ---- what tests are made of

    static void feedAll(BuiltTwice x, int... bytes) {
        for (int v : bytes) {
            x.feed(1, v);
        }
    }

    static int textOf(BuiltTwice x, int... bytes) {
        feedAll(x, bytes);
        return x.text();
    }

    static int textOf(BuiltTwice x, String s) {
        return textOf(x, s.chars().toArray());
    }

    /** The bytes 0, 1, 2 and so on. */
    static int textOfLength(BuiltTwice x, int n) {
        feedAll(x, upTo(n));
        return x.text();
    }

    static int[] upTo(int n) {
        int[] row = new int[n];
        Arrays.setAll(row, i -> i);
        return row;
    }

    /** Feeds so many bytes by few calls. */
    static void feedMany(BuiltTwice x, int n, int v) {
        for (int left = n; left > 0; left -= 4) {
            x.feed(Math.min(left, 4), v * 0x01010101);
        }
    }

    static int stepOf(BuiltTwice x, int tool, int a, int b, int... inputs) {
        int s = x.step(tool, a, b);
        for (int input : inputs) {
            x.need(s, input);
        }
        return s;
    }

    /** The thing of this new PICK step is from in room 0 and to in room 1. */
    static int twoThings(BuiltTwice x, String from, String to) {
        int s = stepOf(x, PICK, 1, 7, textOf(x, from), textOf(x, to));
        x.word(1, 7, 1);
        return s;
    }

    /** Step 2 has 200 bytes in room 1, where step 1 strips what step 0 stamps; in room 0 it fails. */
    static void failsInRoom0(BuiltTwice x) {
        textOfLength(x, 60);
        textOfLength(x, 20);
        stepOf(x, STAMP, 0, 0, 0, 0, 0);
        stepOf(x, STRIP, 77, 0, STEP + 0);
        stepOf(x, PACK, 0, 5, STEP + 1, 1);
        x.word(1, 0, 77);
    }

    // ---- how tests are run

    /** Runs every method of a class that says which sentence it holds, in the document's order. */
    static void runAll(Class<? extends Bench> tests) {
        Method[] all = Arrays.stream(tests.getDeclaredMethods()).filter(m -> m.isAnnotationPresent(Says.class))
            .sorted(Comparator.comparing((Method m) -> m.getAnnotation(Says.class).promise())
                .thenComparing(Method::getName)).toArray(Method[]::new);
        for (Method m : all) {
            now = m.getName() + " (" + m.getAnnotation(Says.class).value() + ")\n    ";
            run(m);
        }
        now = "";
        System.out.print(all.length + " sentences, ");
        end();
    }

    private static void run(Method m) {
        int before = checked;
        try {
            m.setAccessible(true);
            m.invoke(null);
        } catch (InvocationTargetException e) {
            wrong++;
            System.out.println(now + "threw " + e.getCause());
        } catch (IllegalAccessException e) {
            throw new IllegalStateException(e);
        }
        if (checked == before) {
            wrong++;
            System.out.println(now + "looked at no answer");
        }
    }

    static void end() {
        System.out.println(checked + " answers looked at, " + wrong + " wrong");
        if (wrong != 0 || checked == 0) {
            System.exit(1);
        }
    }
}
