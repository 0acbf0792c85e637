import java.util.NoSuchElementException;

/** A test for each of the promises 1 to 25: ordinary inputs, edges and wrong inputs. */
public final class PromiseTest {
    private static final Check CHECK = new Check();
    private static final Class<IndexOutOfBoundsException> NO_PLACE = IndexOutOfBoundsException.class;
    private static final Class<IllegalArgumentException> BAD = IllegalArgumentException.class;
    private static final int[] WRONG_SETS = {-1, 3, 4, Integer.MIN_VALUE, Integer.MAX_VALUE};
    private static final int[] WRONG_NUMBERS = {-1, 4096, Integer.MIN_VALUE, Integer.MAX_VALUE};

    private interface SetCall {
        void run(int set);
    }

    private interface NumberCall {
        void run(int set, int number);
    }

    private PromiseTest() {
    }

    public static void main(String[] args) {
        newObject();
        insert();
        insertRange();
        insertRangeRefuses();
        insertAll();
        delete();
        pollFirst();
        pollLast();
        clear();
        size();
        contains();
        successor();
        predecessor();
        rank();
        select();
        steps();
        trees();
        clusterMinimum();
        clusterMaximum();
        prefixes();
        longestMatch();
        probes();
        buckets();
        bucketsMerge();
        separator();
        bucketSize();
        bucketOf();
        CHECK.end();
    }

    private static void same(String what, Object got, Object due) {
        CHECK.same(what, got, due);
    }

    private static SmallNumberSets with(int... numbers) {
        SmallNumberSets x = new SmallNumberSets();
        for (int number : numbers) {
            x.insert(1, number);
        }
        return x;
    }

    private static void refusesSets(String what, SmallNumberSets x, SetCall call) {
        String before = Picture.of(x);
        for (int set : WRONG_SETS) {
            CHECK.refuses(what + " set " + set, NO_PLACE, () -> call.run(set));
        }
        same(what + " threw and changed", Picture.of(x), before);
    }

    private static void refusesNumbers(String what, SmallNumberSets x, NumberCall call) {
        refusesSets(what, x, set -> call.run(set, 5));
        refusesSets(what + " (both wrong)", x, set -> call.run(set, 4096));
        String before = Picture.of(x);
        for (int number : WRONG_NUMBERS) {
            for (int set = 0; set < 3; set++) {
                int chosen = set;
                CHECK.refuses(what + " number " + number, BAD, () -> call.run(chosen, number));
            }
        }
        same(what + " threw and changed", Picture.of(x), before);
    }

    private static void refusesPlaces(String what, SmallNumberSets x, int end, NumberCall call) {
        refusesSets(what, x, set -> call.run(set, 0));
        String before = Picture.of(x);
        for (int place : new int[] {-1, end, end + 1, Integer.MIN_VALUE, Integer.MAX_VALUE}) {
            CHECK.refuses(what + " place " + place, NO_PLACE, () -> call.run(1, place));
        }
        same(what + " threw and changed", Picture.of(x), before);
    }

    // ---- promise 1

    private static void newObject() {
        SmallNumberSets x = new SmallNumberSets();
        for (int set = 0; set < 3; set++) {
            same("new size", x.size(set), 0);
            same("new trees", x.trees(set), 0);
            same("new prefixes 0", x.prefixes(set, 0), 0);
            same("new buckets", Picture.buckets(x, set), "0:0");
            same("new successor", x.successor(set, 0), SmallNumberSets.NONE);
        }
        SmallNumberSets other = new SmallNumberSets();
        other.insert(0, 1);
        same("objects share nothing", x.size(0), 0);
        same("NONE", SmallNumberSets.NONE, -1);
    }

    // ---- promises 2 to 4

    private static void insert() {
        SmallNumberSets x = new SmallNumberSets();
        same("insert 0", x.insert(0, 0), true);
        same("insert 0 again", x.insert(0, 0), false);
        same("insert 4095", x.insert(0, 4095), true);
        same("insert 4095 again", x.insert(0, 4095), false);
        same("insert 7 into 2", x.insert(2, 7), true);
        same("size 0", x.size(0), 2);
        same("size 1", x.size(1), 0);
        same("size 2", x.size(2), 1);
        same("has 0", x.contains(0, 0), true);
        String before = Picture.of(x);
        same("insert once more", x.insert(0, 0), false);
        same("an insert of a member changes nothing", Picture.of(x), before);
        refusesNumbers("insert", x, x::insert);
    }

    private static void insertRange() {
        SmallNumberSets x = with(20, 25);
        same("range 10 15 20 25", x.insertRange(1, 10, 5, 4), 2);
        same("members", Picture.of(x, 1).startsWith("members 10 15 20 25 trees"), true);
        same("range of one", x.insertRange(1, 4095, 1000, 1), 1);
        same("range to the end", x.insertRange(0, 95, 1000, 5), 5);
        same("last of it", x.contains(0, 4095), true);
        same("range of thirty", x.insertRange(2, 4066, 1, 30), 30);
        same("again", x.insertRange(2, 4066, 1, 30), 0);
        same("thirty in rising order", Picture.buckets(x, 2),
                "0:4 4070:4 4074:4 4078:4 4082:4 4086:4 4090:6");
    }

    private static void insertRangeRefuses() {
        SmallNumberSets x = with(20, 25);
        refusesSets("insertRange", x, set -> x.insertRange(set, 0, 1, 1));
        refusesSets("insertRange (all wrong)", x, set -> x.insertRange(set, -1, 0, 0));
        String before = Picture.of(x);
        int[][] wrong = {
            {-1, 1, 1}, {-1, 1, 2}, {-30, 1, 31}, {4096, 1, 1}, {10, 1, 0},
            {0, 0, 1}, {0, 1001, 1}, {0, -1, 2}, {0, 1, 0}, {0, 1, 31}, {0, 1, -1},
            {4067, 1, 30}, {96, 1000, 5}, {4095, 1, 2}, {4000, 100, 2}, {0, 1000, 30},
            {Integer.MAX_VALUE, 1, 1}, {Integer.MIN_VALUE, 1, 1}, {0, Integer.MAX_VALUE, 1},
            {0, Integer.MIN_VALUE, 1}, {0, 1, Integer.MAX_VALUE}, {0, 1, Integer.MIN_VALUE},
            {0, Integer.MAX_VALUE, Integer.MAX_VALUE}, {5, 1 << 30, 5}, {10, -1, 5},
        };
        for (int[] row : wrong) {
            CHECK.refuses("insertRange " + row[0] + " " + row[1] + " " + row[2], BAD,
                    () -> x.insertRange(1, row[0], row[1], row[2]));
        }
        same("insertRange threw and changed", Picture.of(x), before);
    }

    private static void insertAll() {
        SmallNumberSets x = with(3, 5, 9);
        x.insert(0, 5);
        x.insert(0, 4000);
        same("insertAll", x.insertAll(0, 1), 2);
        same("members of 0", Picture.of(x, 0).startsWith("members 3 5 9 4000 trees"), true);
        same("the other stays", Picture.of(x, 1).startsWith("members 3 5 9 trees"), true);
        same("again", x.insertAll(0, 1), 0);
        same("of an empty set", x.insertAll(0, 2), 0);
        String before = Picture.of(x);
        same("of itself", x.insertAll(0, 0), 0);
        same("of itself changes nothing", Picture.of(x), before);
        refusesSets("insertAll set", x, set -> x.insertAll(set, 1));
        refusesSets("insertAll other", x, set -> x.insertAll(1, set));
        x.insertRange(2, 100, 7, 30);
        same("thirty members", x.insertAll(1, 2), 30);
        same("rising order", Picture.buckets(x, 1), "0:4 107:4 135:4 163:4 191:4 219:4 247:4 275:5");
        same("thirty members of itself", x.insertAll(2, 2), 0);
        x.insert(2, 101);
        String full = Picture.of(x);
        CHECK.refuses("insertAll of 31", IllegalStateException.class, () -> x.insertAll(0, 2));
        CHECK.refuses("insertAll of 31 itself", IllegalStateException.class, () -> x.insertAll(2, 2));
        refusesSets("insertAll set, other too large", x, set -> x.insertAll(set, 2));
        refusesSets("insertAll other, set large", x, set -> x.insertAll(2, set));
        same("insertAll threw and changed", Picture.of(x), full);
    }

    // ---- promises 5 to 10

    private static void delete() {
        SmallNumberSets x = with(0, 70, 75, 4095);
        same("delete no member", x.delete(1, 71), false);
        same("delete in another set", x.delete(0, 70), false);
        same("delete 70", x.delete(1, 70), true);
        same("delete 70 again", x.delete(1, 70), false);
        same("delete least", x.delete(1, 0), true);
        same("delete greatest", x.delete(1, 4095), true);
        same("as if only 75 had come", Picture.of(x), Picture.of(with(75)));
        same("delete last", x.delete(1, 75), true);
        same("empty again", Picture.of(x), Picture.of(new SmallNumberSets()));
        SmallNumberSets y = with(5);
        refusesNumbers("delete", y, y::delete);
    }

    private static void pollFirst() {
        SmallNumberSets x = with(4095, 0, 64, 63);
        same("pollFirst", x.pollFirst(1), 0);
        same("pollFirst", x.pollFirst(1), 63);
        same("rest", Picture.of(x), Picture.of(with(64, 4095)));
        same("pollFirst", x.pollFirst(1), 64);
        same("pollFirst", x.pollFirst(1), 4095);
        CHECK.refuses("pollFirst of empty", NoSuchElementException.class, () -> x.pollFirst(1));
        same("still empty", Picture.of(x), Picture.of(new SmallNumberSets()));
        SmallNumberSets one = with(1);
        refusesSets("pollFirst", one, one::pollFirst);
        SmallNumberSets y = new SmallNumberSets();
        y.insertRange(0, 10, 10, 9);
        for (int i = 1; i <= 3; i++) {
            same("pollFirst", y.pollFirst(0), 10 * i);
        }
        same("the first bucket is merged", Picture.buckets(y, 0), "0:6");
    }

    private static void pollLast() {
        SmallNumberSets x = with(4095, 0, 64, 63);
        same("pollLast", x.pollLast(1), 4095);
        same("pollLast", x.pollLast(1), 64);
        same("rest", Picture.of(x), Picture.of(with(0, 63)));
        same("pollLast", x.pollLast(1), 63);
        same("pollLast", x.pollLast(1), 0);
        CHECK.refuses("pollLast of empty", NoSuchElementException.class, () -> x.pollLast(1));
        same("still empty", Picture.of(x), Picture.of(new SmallNumberSets()));
        SmallNumberSets one = with(1);
        refusesSets("pollLast", one, one::pollLast);
        SmallNumberSets y = new SmallNumberSets();
        y.insertRange(0, 10, 10, 9);
        for (int i = 9; i >= 6; i--) {
            same("pollLast", y.pollLast(0), 10 * i);
        }
        same("the last bucket is merged", Picture.buckets(y, 0), "0:5");
    }

    private static void clear() {
        SmallNumberSets x = with(7);
        x.insertRange(0, 100, 50, 30);
        same("clear", x.clear(0), 30);
        same("cleared", Picture.of(x), Picture.of(with(7)));
        same("clear again", x.clear(0), 0);
        same("longestMatch after clear", x.longestMatch(0, 100), -1);
        same("insert after clear", x.insert(0, 100), true);
        refusesSets("clear", x, x::clear);
    }

    private static void size() {
        SmallNumberSets x = with(1, 2, 3, 3);
        same("size", x.size(1), 3);
        same("size of empty", x.size(0), 0);
        x.delete(1, 2);
        x.delete(1, 2);
        same("size after delete", x.size(1), 2);
        refusesSets("size", x, x::size);
    }

    private static void contains() {
        SmallNumberSets x = with(0, 64, 4095);
        for (int number : new int[] {0, 64, 4095}) {
            same("contains " + number, x.contains(1, number), true);
            same("contains elsewhere", x.contains(2, number), false);
        }
        for (int number : new int[] {1, 63, 65, 4094, 128}) {
            same("contains " + number, x.contains(1, number), false);
        }
        refusesNumbers("contains", x, x::contains);
    }

    // ---- promises 11 to 14

    private static void successor() {
        SmallNumberSets x = with(10, 63, 64, 4095);
        int[][] rows = {{0, 10}, {9, 10}, {10, 63}, {62, 63}, {63, 64}, {64, 4095}, {4094, 4095}, {4095, -1}};
        for (int[] row : rows) {
            same("successor " + row[0], x.successor(1, row[0]), row[1]);
        }
        same("of empty", x.successor(0, 0), -1);
        same("of the only one", with(0).successor(1, 0), -1);
        same("zero is none's successor", with(0).successor(1, 4095), -1);
        refusesNumbers("successor", x, x::successor);
    }

    private static void predecessor() {
        SmallNumberSets x = with(0, 63, 64, 4000);
        int[][] rows = {{0, -1}, {1, 0}, {63, 0}, {64, 63}, {65, 64}, {4000, 64}, {4001, 4000}, {4095, 4000}};
        for (int[] row : rows) {
            same("predecessor " + row[0], x.predecessor(1, row[0]), row[1]);
        }
        same("of empty", x.predecessor(0, 4095), -1);
        same("of the only one", with(4095).predecessor(1, 4095), -1);
        refusesNumbers("predecessor", x, x::predecessor);
    }

    private static void rank() {
        SmallNumberSets x = with(0, 63, 64, 4095);
        int[][] rows = {{0, 0}, {1, 1}, {63, 1}, {64, 2}, {65, 3}, {128, 3}, {4095, 3}};
        for (int[] row : rows) {
            same("rank " + row[0], x.rank(1, row[0]), row[1]);
        }
        same("of empty", x.rank(0, 4095), 0);
        refusesNumbers("rank", x, x::rank);
    }

    private static void select() {
        SmallNumberSets x = with(4095, 0, 64, 63);
        int[] due = {0, 63, 64, 4095};
        for (int place = 0; place < due.length; place++) {
            same("select " + place, x.select(1, place), due[place]);
        }
        CHECK.refuses("select of empty", NO_PLACE, () -> x.select(0, 0));
        refusesPlaces("select", x, 4, x::select);
    }

    // ---- promises 15 to 18

    private static void steps() {
        SmallNumberSets x = with(100, 200, 4095, 101);
        // at once; in the cluster at once; in the summary, and in it in a part
        int[][] rows = {{0, 1}, {99, 1}, {100, 2}, {101, 3}, {199, 2}, {200, 3}, {4094, 2}, {4095, 1}};
        for (int[] row : rows) {
            same("steps " + row[0], x.steps(1, row[0]), row[1]);
        }
        SmallNumberSets y = with(0, 1, 2, 3, 40);
        same("in the cluster on in a part", y.steps(1, 2), 3);
        same("in the cluster on in its summary", y.steps(1, 3), 3);
        same("in the cluster below its least", y.steps(1, 0), 2);
        same("the greatest", y.steps(1, 40), 1);
        same("the summary below its least", with(0, 1000).steps(1, 10), 2);
        same("of empty", y.steps(0, 5), 1);
        refusesNumbers("steps", x, x::steps);
    }

    private static void trees() {
        same("one member", with(4095).trees(1), 1);
        // the tree, the cluster and the summary
        same("two members", with(0, 4095).trees(1), 3);
        // the cluster has a part and a summary more
        same("three in one cluster", with(0, 1, 2).trees(1), 5);
        same("two parts", with(0, 1, 2, 63).trees(1), 6);
        // the tree, two clusters, the summary with a part and a summary
        same("two clusters", with(0, 64, 128).trees(1), 6);
        SmallNumberSets x = with(100, 101, 200, 4095);
        same("trees", x.trees(1), 8);
        x.delete(1, 100);
        same("trees after delete", x.trees(1), 6);
        same("of empty", x.trees(0), 0);
        refusesSets("trees", x, x::trees);
    }

    private static void clusterMinimum() {
        SmallNumberSets x = with(70, 65, 90, 4095);
        same("the least lies in no cluster", x.clusterMinimum(1, 1), 6);
        same("last cluster", x.clusterMinimum(1, 63), 63);
        same("empty cluster", x.clusterMinimum(1, 0), -1);
        x.insert(1, 64);
        same("the old least goes down", x.clusterMinimum(1, 1), 1);
        x.delete(1, 64);
        same("and comes up", x.clusterMinimum(1, 1), 6);
        x.delete(1, 70);
        same("minimum gone", x.clusterMinimum(1, 1), 26);
        same("low part 0", with(0, 128).clusterMinimum(1, 2), 0);
        same("the only member", with(64).clusterMinimum(1, 1), -1);
        refusesPlaces("clusterMinimum", x, 64, x::clusterMinimum);
    }

    private static void clusterMaximum() {
        SmallNumberSets x = with(70, 65, 90, 4095);
        same("maximum", x.clusterMaximum(1, 1), 26);
        same("last cluster", x.clusterMaximum(1, 63), 63);
        same("empty cluster", x.clusterMaximum(1, 62), -1);
        x.delete(1, 90);
        same("maximum gone", x.clusterMaximum(1, 1), 6);
        x.delete(1, 65);
        same("cluster emptied", x.clusterMaximum(1, 1), -1);
        same("low part 0", with(0, 128).clusterMaximum(1, 2), 0);
        same("the only member", with(64).clusterMaximum(1, 1), -1);
        refusesPlaces("clusterMaximum", x, 64, x::clusterMaximum);
    }

    // ---- promises 19 to 21

    private static void prefixes() {
        SmallNumberSets x = with(0, 1, 2, 4095, 2048);
        int[] due = {1, 2, 3, 3, 3, 3, 3, 3, 3, 3, 3, 4, 5};
        for (int level = 0; level <= 12; level++) {
            same("prefixes " + level, x.prefixes(1, level), due[level]);
            same("prefixes of empty " + level, x.prefixes(0, level), 0);
        }
        x.delete(1, 1);
        same("a shared prefix stays", x.prefixes(1, 11), 4);
        same("the number's own goes", x.prefixes(1, 12), 4);
        x.delete(1, 4095);
        same("level 2 after delete", x.prefixes(1, 2), 2);
        refusesPlaces("prefixes", x, 13, x::prefixes);
    }

    private static void longestMatch() {
        SmallNumberSets x = with(0);
        same("a member", x.longestMatch(1, 0), 12);
        for (int bit = 0; bit < 12; bit++) {
            same("differs from bit " + bit, x.longestMatch(1, 1 << bit), 11 - bit);
        }
        same("all bits", x.longestMatch(1, 4095), 0);
        x.insert(1, 4094);
        same("the better one", x.longestMatch(1, 4095), 11);
        x.delete(1, 4094);
        same("and without it", x.longestMatch(1, 4095), 0);
        same("of empty", x.longestMatch(0, 0), -1);
        refusesNumbers("longestMatch", x, x::longestMatch);
    }

    private static void probes() {
        SmallNumberSets x = with(0);
        // by hand: 6 3 1 for a match of 0; 6 3 1 2 for 1 and 2; 6 3 4 for 3; 6 9 7 for 6
        int[] due = {3, 4, 4, 3, 4, 4, 3, 4, 4, 4, 4, 4, 4};
        for (int match = 0; match <= 12; match++) {
            int number = match == 12 ? 0 : 1 << (11 - match);
            same("probes at match " + match, x.probes(1, number), due[match]);
        }
        same("of empty", x.probes(0, 0), 0);
        refusesNumbers("probes", x, x::probes);
    }

    // ---- promises 22 to 25

    private static void buckets() {
        SmallNumberSets x = new SmallNumberSets();
        same("of empty", x.buckets(1), 1);
        x.insertRange(1, 10, 10, 8);
        same("eight members", x.buckets(1), 1);
        x.insert(1, 55);
        same("nine members", x.buckets(1), 2);
        same("four stay", Picture.buckets(x, 1), "0:4 50:5");
        refusesSets("buckets", x, x::buckets);
    }

    private static void bucketsMerge() {
        SmallNumberSets x = new SmallNumberSets();
        x.insertRange(1, 10, 10, 9);
        x.delete(1, 10);
        x.delete(1, 20);
        same("two members are enough", Picture.buckets(x, 1), "0:2 50:5");
        x.delete(1, 35);
        same("no member taken out", Picture.buckets(x, 1), "0:2 50:5");
        x.insertRange(1, 51, 1, 3);
        x.delete(1, 30);
        same("merged with the one behind and split", Picture.buckets(x, 1), "0:4 53:5");
        x.insertRange(1, 100, 1, 4);
        same("three", Picture.buckets(x, 1), "0:4 53:4 90:5");
        x.delete(1, 53);
        x.delete(1, 60);
        x.delete(1, 70);
        same("a middle one with the one behind", Picture.buckets(x, 1), "0:4 53:6");
        for (int number : new int[] {80, 90, 100, 101}) {
            x.delete(1, number);
        }
        same("the separator stays when its number goes", Picture.buckets(x, 1), "0:4 53:2");
        x.delete(1, 103);
        same("the last with the one ahead", Picture.buckets(x, 1), "0:5");
        for (int number : new int[] {40, 50, 51, 52, 102}) {
            x.delete(1, number);
        }
        same("one bucket may be empty", Picture.buckets(x, 1), "0:0");
        SmallNumberSets y = new SmallNumberSets();
        y.insertRange(0, 10, 10, 9);
        y.insertRange(0, 1, 1, 4);
        for (int i = 0; i < 4; i++) {
            y.pollLast(0);
        }
        same("the last with a full one ahead", Picture.buckets(y, 0), "0:4 10:5");
    }

    private static void separator() {
        SmallNumberSets x = new SmallNumberSets();
        x.insertRange(1, 100, 100, 30);
        same("first", x.separator(1, 0), 0);
        same("second", x.separator(1, 1), 500);
        same("last", x.separator(1, 6), 2500);
        x.delete(1, 500);
        same("stays without its number", x.separator(1, 1), 500);
        same("of empty", x.separator(0, 0), 0);
        refusesPlaces("separator", x, 7, x::separator);
    }

    private static void bucketSize() {
        SmallNumberSets x = new SmallNumberSets();
        x.insertRange(1, 100, 100, 30);
        same("first", x.bucketSize(1, 0), 4);
        same("last", x.bucketSize(1, 6), 6);
        x.insertRange(1, 4094, 1, 2);
        same("eight", x.bucketSize(1, 6), 8);
        x.insert(1, 0);
        same("zero joins the first", x.bucketSize(1, 0), 5);
        same("of empty", x.bucketSize(0, 0), 0);
        refusesPlaces("bucketSize", x, 7, x::bucketSize);
    }

    private static void bucketOf() {
        SmallNumberSets x = new SmallNumberSets();
        x.insertRange(1, 100, 100, 30);
        int[][] rows = {{0, 0}, {100, 0}, {499, 0}, {500, 1}, {501, 1}, {899, 1}, {900, 2}, {2499, 5}, {2500, 6},
            {4095, 6}};
        for (int[] row : rows) {
            same("bucketOf " + row[0], x.bucketOf(1, row[0]), row[1]);
        }
        same("of empty", x.bucketOf(0, 4095), 0);
        refusesNumbers("bucketOf", x, x::bucketOf);
    }
}
