import java.util.ArrayList;
import java.util.List;

/** Long runs of calls, each answer and each shape compared with the model's. */
public final class ModelTest {
    private static final Check CHECK = new Check();
    private static long state = 1L;

    private ModelTest() {
    }

    /** Numbers that look mixed but are the same in every run. */
    private static int next(int bound) {
        state = state * 6364136223846793005L + 1442695040888963407L;
        return (int) ((state >>> 33) % bound);
    }

    public static void main(String[] args) {
        int[] widths = {20, 64, 100, 300, 1000, 4096};
        for (int run = 0; run < 90; run++) {
            state = 1000L + run;
            int[] weights = run % 3 == 0 ? new int[] {6, 1, 1, 12} : run % 3 == 1
                    ? new int[] {4, 4, 1, 6} : new int[] {8, 1, 0, 8};
            mixedRun(widths[run % widths.length], weights);
        }
        fillAndDrain();
        CHECK.end();
    }

    /** The weights: of insert, of insertRange, of insertAll and clear, of what takes out. */
    private static void mixedRun(int width, int[] weights) {
        SmallNumberSets x = new SmallNumberSets();
        Model[] models = {new Model(), new Model(), new Model()};
        int base = width == 4096 ? 0 : next(4096 - width + 1);
        for (int call = 0; call < 512; call++) {
            int set = next(3);
            int kind = next(weights[0] + weights[1] + weights[2] + weights[3]);
            if (kind < weights[0]) {
                int number = base + next(width);
                CHECK.same("insert", x.insert(set, number), models[set].put(number));
            } else if (kind < weights[0] + weights[1]) {
                range(x, models[set], set, base, width);
            } else if (kind < weights[0] + weights[1] + weights[2]) {
                whole(x, models, set);
            } else {
                takeOut(x, models[set], set, base + next(width));
            }
            compareShapes(x, models[set], set);
            compareSearches(x, models[set], set, base + next(width));
            compareSearches(x, models[set], set, next(4096));
        }
        for (int set = 0; set < 3; set++) {
            compareAll(x, models[set], set);
        }
    }

    private static void range(SmallNumberSets x, Model model, int set, int base, int width) {
        int from = base + next(width);
        int step = 1 + next(width < 100 ? 3 : 60);
        int count = 1 + next(30);
        if (from + (count - 1) * step > 4095) {
            String before = Picture.of(x);
            CHECK.refuses("insertRange", IllegalArgumentException.class,
                    () -> x.insertRange(set, from, step, count));
            CHECK.same("after insertRange threw", Picture.of(x), before);
            return;
        }
        int due = 0;
        for (int i = 0; i < count; i++) {
            due += model.put(from + i * step) ? 1 : 0;
        }
        CHECK.same("insertRange", x.insertRange(set, from, step, count), due);
    }

    private static void whole(SmallNumberSets x, Model[] models, int set) {
        int other = next(3);
        if (next(6) == 0) {
            CHECK.same("clear", x.clear(set), models[set].wipe());
            return;
        }
        if (models[other].members.size() > 30) {
            String before = Picture.of(x);
            CHECK.refuses("insertAll", IllegalStateException.class, () -> x.insertAll(set, other));
            CHECK.same("after insertAll threw", Picture.of(x), before);
            return;
        }
        int due = 0;
        List<Integer> numbers = new ArrayList<>(models[other].members);
        for (int number : numbers) {
            due += models[set].put(number) ? 1 : 0;
        }
        CHECK.same("insertAll", x.insertAll(set, other), due);
    }

    private static void takeOut(SmallNumberSets x, Model model, int set, int number) {
        int kind = next(4);
        if (kind < 2 || model.members.isEmpty()) {
            Integer member = next(4) == 0 ? null : model.members.floor(number);
            int gone = member == null ? number : member;
            CHECK.same("delete", x.delete(set, gone), model.take(gone));
        } else if (kind == 2) {
            int due = model.members.first();
            model.take(due);
            CHECK.same("pollFirst", x.pollFirst(set), due);
        } else {
            int due = model.members.last();
            model.take(due);
            CHECK.same("pollLast", x.pollLast(set), due);
        }
    }

    private static void compareShapes(SmallNumberSets x, Model model, int set) {
        CHECK.same("size", x.size(set), model.members.size());
        CHECK.same("trees", x.trees(set), model.tree().notEmpty());
        for (int h = 0; h < 64; h++) {
            Model.Tree cluster = model.tree().clusters.get(h);
            boolean empty = cluster.held.isEmpty();
            CHECK.same("clusterMinimum " + h, x.clusterMinimum(set, h), empty ? -1 : cluster.held.first());
            CHECK.same("clusterMaximum " + h, x.clusterMaximum(set, h), empty ? -1 : cluster.held.last());
        }
        for (int n = 0; n <= 12; n++) {
            CHECK.same("prefixes " + n, x.prefixes(set, n), model.level(n).size());
        }
        CHECK.same("buckets", x.buckets(set), model.buckets.size());
        for (int i = 0; i < Math.min(x.buckets(set), model.buckets.size()); i++) {
            CHECK.same("separator " + i, x.separator(set, i), model.buckets.get(i).separator);
            CHECK.same("bucketSize " + i, x.bucketSize(set, i), model.buckets.get(i).members.size());
        }
    }

    private static void compareSearches(SmallNumberSets x, Model model, int set, int number) {
        String text = " of " + number;
        CHECK.same("contains" + text, x.contains(set, number), model.members.contains(number));
        CHECK.same("successor" + text, x.successor(set, number), orNone(model.members.higher(number)));
        CHECK.same("predecessor" + text, x.predecessor(set, number), orNone(model.members.lower(number)));
        CHECK.same("rank" + text, x.rank(set, number), model.members.headSet(number).size());
        CHECK.same("steps" + text, x.steps(set, number), model.tree().steps(number));
        CHECK.same("longestMatch" + text, x.longestMatch(set, number), model.longestMatch(number));
        CHECK.same("probes" + text, x.probes(set, number), model.probes(number));
        CHECK.same("bucketOf" + text, x.bucketOf(set, number), model.bucketOf(number));
    }

    private static int orNone(Integer number) {
        return number == null ? -1 : number;
    }

    private static void compareAll(SmallNumberSets x, Model model, int set) {
        compareShapes(x, model, set);
        for (int number = 0; number < 4096; number++) {
            compareSearches(x, model, set, number);
        }
        int place = 0;
        for (int member : model.members) {
            CHECK.same("select " + place, x.select(set, place), member);
            place++;
        }
        int end = place;
        CHECK.refuses("select " + end, IndexOutOfBoundsException.class, () -> x.select(set, end));
    }

    /** All 4096 numbers in one set within the calls that the document grants, and some out again. */
    private static void fillAndDrain() {
        SmallNumberSets x = new SmallNumberSets();
        Model model = new Model();
        for (int from = 0; from < 4096; from += 30) {
            int count = Math.min(30, 4096 - from);
            for (int i = 0; i < count; i++) {
                model.put(from + i);
            }
            CHECK.same("fill", x.insertRange(1, from, 1, count), count);
        }
        CHECK.same("full", x.size(1), 4096);
        compareAll(x, model, 1);
        for (int i = 0; i < 180; i++) {
            CHECK.same("drain first", x.pollFirst(1), i);
            CHECK.same("drain last", x.pollLast(1), 4095 - i);
            model.take(i);
            model.take(4095 - i);
        }
        compareAll(x, model, 1);
        CHECK.same("clear full", x.clear(1), 4096 - 360);
        model.wipe();
        compareAll(x, model, 1);
    }
}
