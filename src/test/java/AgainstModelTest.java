import java.util.ArrayList;
import java.util.List;
import java.util.Random;

/** Long runs of drawn calls on the class and on the model beside it; each answer must be the same. */
public final class AgainstModelTest {
    private static final String[] CALLS = {"feed", "text", "write", "lack", "word", "copy", "step", "need", "made",
        "at", "reads", "uses", "orders", "built", "alike", "changes", "change", "cause", "fix", "stable", "breaks",
        "rooms", "maker", "down", "ring", "needs", "forge", "trust", "heirs", "count"};
    private static final int[] ODD = {-1, -2, 256, 255, 100, 99, 20, 24, 30, 8, 200, 199,
        Integer.MIN_VALUE, Integer.MAX_VALUE};
    private static final int CALLS_OF_A_RUN = 512;

    private final Random draw;
    private final BuiltTwice real = new BuiltTwice();
    private final Model model = new Model();
    private final List<String> told = new ArrayList<>();
    private final boolean longTexts;

    private AgainstModelTest(long seed) {
        draw = new Random(seed);
        longTexts = seed % 3 == 0;
    }

    public static void main(String[] args) {
        int runs = args.length > 0 ? Integer.parseInt(args[0]) : 300;
        for (int seed = 0; seed < runs; seed++) {
            if (!new AgainstModelTest(seed).agrees()) {
                System.out.println("the run of seed " + seed);
                System.exit(1);
            }
        }
        System.out.println(runs + " runs agree with the model");
    }

    private boolean agrees() {
        int building = 40 + draw.nextInt(160);
        for (int k = 0; k < CALLS_OF_A_RUN; k++) {
            // at first most calls bring something, later on most of them ask
            boolean bringing = draw.nextInt(10) < (k < building ? 8 : 1);
            String call = bringing ? CALLS[draw.nextInt(8)] : CALLS[draw.nextInt(CALLS.length)];
            if (bringing && draw.nextInt(6) == 0) {
                call = "maker";
            }
            if (bringing && draw.nextInt(3) == 0) {
                call = draw.nextBoolean() ? "need" : "word";
            }
            if (!sameAnswer(call, arguments(call))) {
                return false;
            }
        }
        return true;
    }

    private int any(int bound) {
        if (draw.nextInt(60) == 0) {
            return ODD[draw.nextInt(ODD.length)];
        }
        return draw.nextInt(Math.max(bound, 1));
    }

    private int aStep() {
        int n = model.count(1);
        return draw.nextInt(3) == 0 ? any(n) : n == 0 ? 0 : Math.max(0, n - 1 - any(5));
    }

    private int aByte() {
        return draw.nextInt(4) == 0 ? any(256) : any(4);
    }

    private int anInput() {
        return draw.nextInt(3) == 0 ? any(model.count(0)) : 100 + any(model.count(1));
    }

    private int[] arguments(String call) {
        switch (call) {
            case "feed": return new int[] {longTexts ? 4 : 1 + any(4), draw.nextInt(3) == 0 ? draw.nextInt() : draw.nextInt() & 0x03010201};
            case "write": return new int[] {any(model.count(0))};
            case "lack": return new int[] {any(model.count(0)), draw.nextInt(4) == 0 ? 1 : any(1)};
            case "word": return new int[] {any(draw.nextBoolean() ? 8 : 3), any(8), aByte()};
            case "copy": return new int[] {any(8), any(8)};
            case "step": return new int[] {draw.nextInt(3) == 0 ? any(8) : 1 + any(5), aByte(), any(8)};
            case "need": return new int[] {aStep(), anInput()};
            case "made": return new int[] {any(8), aStep()};
            case "at": return new int[] {any(8), aStep(), any(draw.nextBoolean() ? 8 : 200)};
            case "reads": return new int[] {any(8), aStep(), any(2)};
            case "uses": return new int[] {aStep(), any(2)};
            case "orders": return new int[] {aStep()};
            case "alike": case "changes": case "cause": case "fix":
                return new int[] {any(draw.nextBoolean() ? 8 : 3), any(3), aStep()};
            case "change": return new int[] {any(draw.nextBoolean() ? 4 : 80), any(3)};
            case "stable": return new int[] {any(8), aStep(), any(8), any(256)};
            case "breaks": return new int[] {any(8), aStep(), any(8)};
            case "rooms": return new int[] {aStep(), any(256)};
            case "maker": return new int[] {any(30), any(20) - (draw.nextInt(5) == 0 ? 1 : 0), any(model.count(0))};
            case "ring": return new int[] {any(30), any(5)};
            case "needs": return new int[] {any(30), any(2)};
            case "forge": return new int[] {any(30), any(2)};
            case "down": case "trust": case "heirs": return new int[] {any(30)};
            case "built": return new int[] {any(8)};
            case "count": return new int[] {any(7)};
            default: return new int[0];
        }
    }

    private boolean sameAnswer(String call, int[] a) {
        long want = Calls.ask(model, call, a);
        long got = Calls.ask(real, call, a);
        told.add(call + java.util.Arrays.toString(a) + " " + got);
        if (want == got) {
            return true;
        }
        told.forEach(System.out::println);
        System.out.println("due is " + want);
        return false;
    }

    /** Calls a method of the class or of the model by its name. */
    private static final class Calls {
        static long ask(Object on, String call, int[] a) {
            Class<?>[] types = new Class<?>[a.length];
            Object[] values = new Object[a.length];
            for (int i = 0; i < a.length; i++) {
                types[i] = int.class;
                values[i] = a[i];
            }
            try {
                return ((Number) on.getClass().getDeclaredMethod(call, types).invoke(on, values)).longValue();
            } catch (ReflectiveOperationException e) {
                throw new IllegalStateException(call, e);
            }
        }
    }
}
