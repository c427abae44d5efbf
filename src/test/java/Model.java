import java.util.ArrayList;
import java.util.Arrays;
import java.util.Comparator;
import java.util.HashMap;
import java.util.HashSet;
import java.util.LinkedHashSet;
import java.util.List;
import java.util.Map;
import java.util.Set;
import java.util.TreeSet;
import java.util.stream.Collectors;
import java.util.stream.IntStream;

/**
 * The document a second time, as plainly as the Java library lets it be said, and without regard to
 * time or memory: no masks, no tables kept, each term worked out anew from its definition.
 */
final class Model {
    private static final int BAD = -1, NOT = -2, FULL = -3, BIG = -4, RING = -5;

    private record Step(int tool, int a, int b, List<Integer> inputs) { }

    private record Change(int kind, int place, int comes) { }

    private List<Integer> tape = new ArrayList<>();
    private final List<List<Integer>> texts = new ArrayList<>();
    private final Set<Integer> lacking = new HashSet<>();
    private final int[][] words = new int[8][8];
    private final List<Step> steps = new ArrayList<>();
    private List<Change> latest = List.of();
    private final Map<Integer, Integer> madeBy = new HashMap<>();
    private final Map<Integer, Integer> madeFrom = new HashMap<>();
    private final Set<Integer> forged = new HashSet<>();

    private static boolean in(int v, int from, int to) {
        return from <= v && v <= to;
    }

    private boolean isText(int t) {
        return in(t, 0, texts.size() - 1);
    }

    private boolean isStep(int s) {
        return in(s, 0, steps.size() - 1);
    }

    private static boolean isRoom(int r) {
        return in(r, 0, 7);
    }

    private static int mask(Set<Integer> set) {
        return set.stream().mapToInt(i -> 1 << i).sum();
    }

    /** All masks 0 .. 255, the fewest bits first, then the least. */
    private static List<Integer> masks() {
        Comparator<Integer> bySize = Comparator.comparing(Integer::bitCount);
        return IntStream.range(0, 256).boxed().sorted(bySize.thenComparing(i -> i)).collect(Collectors.toList());
    }

    // ---- what there is

    int feed(int n, int v) {
        if (!in(n, 1, 4)) {
            return BAD;
        }
        if (tape.size() + n > 60) {
            return FULL;
        }
        for (int k = 0; k < n; k++) {
            tape.add(Math.floorMod(Math.floorDiv((long) v, 1L << 8 * k), 256));
        }
        return tape.size();
    }

    int text() {
        if (texts.size() == 20) {
            return FULL;
        }
        texts.add(tape);
        tape = new ArrayList<>();
        return texts.size() - 1;
    }

    int write(int text) {
        if (!isText(text)) {
            return BAD;
        }
        texts.set(text, tape);
        tape = new ArrayList<>();
        return texts.get(text).size();
    }

    int lack(int text, int is) {
        if (!isText(text) || !in(is, 0, 1)) {
            return BAD;
        }
        boolean was = is == 1 ? !lacking.add(text) : lacking.remove(text);
        return was ? 1 : 0;
    }

    int word(int room, int word, int v) {
        if (!isRoom(room) || !in(word, 0, 7) || !in(v, 0, 255)) {
            return BAD;
        }
        int was = words[room][word];
        words[room][word] = v;
        return was;
    }

    int copy(int p, int q) {
        if (!isRoom(p) || !isRoom(q)) {
            return BAD;
        }
        int others = (int) IntStream.range(0, 8).filter(w -> words[p][w] != words[q][w]).count();
        words[q] = words[p].clone();
        return others;
    }

    int step(int tool, int a, int b) {
        if (!in(tool, 0, 7) || !in(a, 0, 255) || !in(b, 0, 7)) {
            return BAD;
        }
        if (steps.size() == 24) {
            return FULL;
        }
        steps.add(new Step(tool, a, b, new ArrayList<>()));
        return steps.size() - 1;
    }

    int need(int step, int input) {
        if (!isStep(step) || !isText(input) && !in(input, 100, 100 + step - 1)) {
            return BAD;
        }
        if (steps.stream().anyMatch(s -> s.inputs().contains(100 + step))) {
            return NOT;
        }
        List<Integer> inputs = steps.get(step).inputs();
        if (inputs.size() == 4) {
            return FULL;
        }
        inputs.add(input);
        return inputs.size();
    }

    // ---- building

    private static int wordOf(Step s) {
        return s.tool() == 1 || s.tool() == 2 || s.tool() == 5 ? s.b() : -1;
    }

    /** What all steps make by these words; null for one that fails. */
    private List<List<Integer>> build(int[] room) {
        List<List<Integer>> things = new ArrayList<>();
        for (Step s : steps) {
            List<List<Integer>> inputs = new ArrayList<>();
            for (int input : s.inputs()) {
                inputs.add(input >= 100 ? things.get(input - 100) : lacking.contains(input) ? null : texts.get(input));
            }
            boolean fails = inputs.isEmpty() || inputs.contains(null);
            things.add(fails ? null : thing(s, inputs, room[s.b()]));
        }
        return things;
    }

    private static List<Integer> thing(Step s, List<List<Integer>> inputs, int word) {
        if (s.tool() == 5) {
            return word < s.a() ? inputs.get(0) : inputs.get(inputs.size() - 1);
        }
        if (s.tool() == 2 && word % 2 == 1) {
            java.util.Collections.reverse(inputs);
        }
        List<Integer> join = inputs.stream().flatMap(List::stream).collect(Collectors.toList());
        if (s.tool() == 1) {
            join.add(word);
        }
        if (join.size() > 200) {
            return null;
        }
        switch (s.tool()) {
            case 3: return join.stream().filter(v -> v != s.a()).collect(Collectors.toList());
            case 4: return join.stream().map(v -> v ^ s.a()).collect(Collectors.toList());
            case 6: return join.stream().sorted().collect(Collectors.toList());
            case 7:
                int h = 40503;
                for (int v : join) {
                    h = (h ^ v) * 16777619;
                }
                byte[] four = java.nio.ByteBuffer.allocate(4).putInt(h).array();
                return IntStream.range(0, 4).mapToObj(i -> four[i] & 255).collect(Collectors.toList());
            default: return join;
        }
    }

    private Set<Integer> used(int step) {
        Set<Integer> set = new TreeSet<>(Set.of(step));
        for (int input : steps.get(step).inputs()) {
            if (input >= 100) {
                set.addAll(used(input - 100));
            }
        }
        return set;
    }

    private Set<Integer> usedWords(int room, int step) {
        List<List<Integer>> things = build(words[room]);
        return used(step).stream().filter(s -> things.get(s) != null).map(s -> wordOf(steps.get(s)))
            .filter(w -> w >= 0).collect(Collectors.toSet());
    }

    int made(int room, int step) {
        if (!isRoom(room) || !isStep(step)) {
            return BAD;
        }
        List<Integer> thing = build(words[room]).get(step);
        return thing == null ? NOT : thing.size();
    }

    int at(int room, int step, int place) {
        if (!isRoom(room) || !isStep(step) || !in(place, 0, 199)) {
            return BAD;
        }
        List<Integer> thing = build(words[room]).get(step);
        return thing == null ? NOT : place < thing.size() ? thing.get(place) : BAD;
    }

    int reads(int room, int step, int what) {
        if (!isRoom(room) || !isStep(step) || !in(what, 0, 1)) {
            return BAD;
        }
        if (what == 1) {
            return mask(usedWords(room, step));
        }
        int w = wordOf(steps.get(step));
        return w < 0 || build(words[room]).get(step) == null ? 0 : 1 << w;
    }

    int uses(int step, int what) {
        if (!isStep(step) || !in(what, 0, 1)) {
            return BAD;
        }
        if (what == 0) {
            return mask(used(step));
        }
        return mask(used(step).stream().flatMap(s -> steps.get(s).inputs().stream()).filter(i -> i < 100)
            .collect(Collectors.toSet()));
    }

    long orders(int step) {
        if (!isStep(step)) {
            return BAD;
        }
        Set<Integer> set = used(step);
        return set.size() > 16 ? BIG : ordersLeft(set, new HashMap<>());
    }

    /** Takes away, as the last one done, each that is input of none that is left. */
    private long ordersLeft(Set<Integer> left, Map<Set<Integer>, Long> known) {
        if (left.isEmpty()) {
            return 1;
        }
        Long is = known.get(left);
        if (is != null) {
            return is;
        }
        long n = 0;
        for (int s : left) {
            if (left.stream().noneMatch(o -> steps.get(o).inputs().contains(100 + s))) {
                Set<Integer> fewer = new TreeSet<>(left);
                fewer.remove(s);
                n += ordersLeft(fewer, known);
            }
        }
        known.put(left, n);
        return n;
    }

    int built(int room) {
        return !isRoom(room) ? BAD : (int) build(words[room]).stream().filter(t -> t != null).count();
    }

    // ---- side by side

    private boolean same(int[] p, int[] q, int step) {
        return java.util.Objects.equals(build(p).get(step), build(q).get(step));
    }

    int alike(int p, int q, int step) {
        return !isRoom(p) || !isRoom(q) || !isStep(step) ? BAD : same(words[p], words[q], step) ? 1 : 0;
    }

    int changes(int p, int q, int step) {
        if (!isRoom(p) || !isRoom(q) || !isStep(step)) {
            return BAD;
        }
        List<Integer> x = build(words[p]).get(step);
        List<Integer> y = build(words[q]).get(step);
        if (x == null || y == null) {
            return NOT;
        }
        latest = aligned(x, y);
        return latest.size();
    }

    private static int[][] fewest(List<Integer> x, List<Integer> y) {
        int[][] d = new int[x.size() + 1][y.size() + 1];
        for (int i = x.size(); i >= 0; i--) {
            for (int j = y.size(); j >= 0; j--) {
                int best = i == x.size() && j == y.size() ? 0 : Integer.MAX_VALUE;
                if (i < x.size()) {
                    best = Math.min(best, d[i + 1][j] + 1);
                }
                if (j < y.size()) {
                    best = Math.min(best, d[i][j + 1] + 1);
                }
                if (i < x.size() && j < y.size()) {
                    best = Math.min(best, d[i + 1][j + 1] + (x.get(i).equals(y.get(j)) ? 0 : 1));
                }
                d[i][j] = best;
            }
        }
        return d;
    }

    private static List<Change> aligned(List<Integer> x, List<Integer> y) {
        int[][] d = fewest(x, y);
        List<Change> all = new ArrayList<>();
        int i = 0;
        int j = 0;
        while (i < x.size() || j < y.size()) {
            boolean both = i < x.size() && j < y.size();
            if (both && x.get(i).equals(y.get(j)) && d[i + 1][j + 1] == d[i][j]) {
                i++;
                j++;
            } else if (both && d[i + 1][j + 1] + 1 == d[i][j]) {
                all.add(new Change(0, i++, y.get(j++)));
            } else if (i < x.size() && d[i + 1][j] + 1 == d[i][j]) {
                all.add(new Change(1, i++, 0));
            } else {
                all.add(new Change(2, i, y.get(j++)));
            }
        }
        return all;
    }

    int change(int i, int what) {
        if (!in(i, 0, latest.size() - 1) || !in(what, 0, 2)) {
            return BAD;
        }
        Change c = latest.get(i);
        return what == 0 ? c.kind() : what == 1 ? c.place() : c.comes();
    }

    int cause(int p, int q, int step) {
        if (!isRoom(p) || !isRoom(q) || !isStep(step)) {
            return BAD;
        }
        if (same(words[p], words[q], step)) {
            return NOT;
        }
        return used(step).stream().filter(s -> !same(words[p], words[q], s)
            && steps.get(s).inputs().stream().allMatch(i -> i < 100 || same(words[p], words[q], i - 100)))
            .min(Integer::compare).get();
    }

    int fix(int p, int q, int step) {
        if (!isRoom(p) || !isRoom(q) || !isStep(step)) {
            return BAD;
        }
        return masks().stream().filter(m -> {
            int[] mixed = words[q].clone();
            for (int w = 0; w < 8; w++) {
                mixed[w] = words[(m >> w & 1) == 1 ? p : q][w];
            }
            return same(words[p], mixed, step);
        }).findFirst().get();
    }

    private List<Integer> unlikeValues(int room, int step, int word) {
        return IntStream.range(0, 256).filter(v -> {
            int[] other = words[room].clone();
            other[word] = v;
            return !same(words[room], other, step);
        }).boxed().collect(Collectors.toList());
    }

    int stable(int room, int step, int word, int n) {
        if (!isRoom(room) || !isStep(step) || !in(word, 0, 7) || !in(n, 0, 255)) {
            return BAD;
        }
        return unlikeValues(room, step, word).stream().noneMatch(v -> v <= n) ? 1 : 0;
    }

    int breaks(int room, int step, int word) {
        if (!isRoom(room) || !isStep(step) || !in(word, 0, 7)) {
            return BAD;
        }
        return unlikeValues(room, step, word).stream().findFirst().orElse(NOT);
    }

    int rooms(int step, int set) {
        if (!isStep(step) || !in(set, 1, 255)) {
            return BAD;
        }
        Set<Integer> read = usedWords(0, step);
        return masks().stream().filter(m -> m != 0 && (m & set) == m && read.stream().allMatch(
            w -> IntStream.range(0, 8).filter(r -> (m >> r & 1) == 1).map(r -> words[r][w]).distinct().count() >= 2))
            .findFirst().orElse(NOT);
    }

    // ---- makers

    int maker(int maker, int by, int text) {
        if (!in(maker, 0, 29) || !in(by, -1, 29) || by != -1 && !isText(text)) {
            return BAD;
        }
        madeBy.remove(maker);
        madeFrom.remove(maker);
        if (by != -1) {
            madeBy.put(maker, by);
            madeFrom.put(maker, text);
        }
        return 1;
    }

    private List<Integer> way(int maker) {
        Set<Integer> way = new LinkedHashSet<>();
        Integer m = maker;
        while (m != null && way.add(m)) {
            m = madeBy.get(m);
        }
        return new ArrayList<>(way);
    }

    /** Empty, if a maker leads to a seed. */
    private List<Integer> ringOf(int maker) {
        List<Integer> way = way(maker);
        Integer again = madeBy.get(way.get(way.size() - 1));
        return again == null ? List.of() : way.subList(way.indexOf(again), way.size());
    }

    int down(int maker) {
        return !in(maker, 0, 29) ? BAD : ringOf(maker).isEmpty() ? way(maker).size() - 1 : RING;
    }

    int ring(int maker, int i) {
        if (!in(maker, 0, 29)) {
            return BAD;
        }
        List<Integer> ring = ringOf(maker);
        return ring.isEmpty() ? NOT : in(i, 0, ring.size() - 1) ? ring.get(i) : BAD;
    }

    int needs(int maker, int what) {
        if (!in(maker, 0, 29) || !in(what, 0, 1)) {
            return BAD;
        }
        return (int) way(maker).stream().filter(madeFrom::containsKey).map(madeFrom::get).distinct()
            .filter(t -> what == 0 || lacking.contains(t)).count();
    }

    int forge(int maker, int is) {
        if (!in(maker, 0, 29) || !in(is, 0, 1)) {
            return BAD;
        }
        boolean was = is == 1 ? !forged.add(maker) : forged.remove(maker);
        return was ? 1 : 0;
    }

    int trust(int maker) {
        return !in(maker, 0, 29) ? BAD : way(maker).stream().anyMatch(forged::contains) ? 0 : 1;
    }

    int heirs(int maker) {
        return !in(maker, 0, 29) ? BAD
            : (int) IntStream.range(0, 30).filter(m -> m != maker && way(m).contains(maker)).count();
    }

    int count(int what) {
        int[] all = {texts.size(), steps.size(), 30 - madeBy.size(), forged.size(), tape.size(), lacking.size()};
        return in(what, 0, 5) ? Arrays.stream(all).skip(what).findFirst().getAsInt() : BAD;
    }
}
