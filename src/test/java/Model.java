import java.util.ArrayList;
import java.util.HashSet;
import java.util.List;
import java.util.NavigableSet;
import java.util.Set;
import java.util.TreeSet;

/** One set in the document's own words, without a thought for speed. */
final class Model {
    /** A tree over 2^k numbers, built anew from what it holds. */
    static final class Tree {
        final int k;
        final TreeSet<Integer> held;
        final List<Tree> clusters = new ArrayList<>();
        Tree summary;

        Tree(int k, NavigableSet<Integer> numbers) {
            this.k = k;
            held = new TreeSet<>(numbers);
            if (k > 3) {
                makeParts();
            }
        }

        private void makeParts() {
            int width = 1 << (k / 2);
            List<TreeSet<Integer>> lows = new ArrayList<>();
            for (int i = 0; i < width; i++) {
                lows.add(new TreeSet<>());
            }
            for (int x : held) {
                if (x != held.first()) {
                    lows.get(x / width).add(x % width);
                }
            }
            TreeSet<Integer> filled = new TreeSet<>();
            for (int i = 0; i < width; i++) {
                clusters.add(new Tree(k / 2, lows.get(i)));
                if (!lows.get(i).isEmpty()) {
                    filled.add(i);
                }
            }
            summary = new Tree(k / 2, filled);
        }

        int steps(int x) {
            if (held.isEmpty() || x >= held.last() || x < held.first() || k == 3) {
                return 1;
            }
            int width = 1 << (k / 2);
            Tree cluster = clusters.get(x / width);
            if (!cluster.held.isEmpty() && x % width < cluster.held.last()) {
                return 1 + cluster.steps(x % width);
            }
            return 1 + summary.steps(x / width);
        }

        int notEmpty() {
            if (held.isEmpty()) {
                return 0;
            }
            int count = 1;
            if (k > 3) {
                count += summary.notEmpty();
                for (Tree cluster : clusters) {
                    count += cluster.notEmpty();
                }
            }
            return count;
        }
    }

    static final class Bucket {
        final int separator;
        final TreeSet<Integer> members = new TreeSet<>();

        Bucket(int separator) {
            this.separator = separator;
        }
    }

    final TreeSet<Integer> members = new TreeSet<>();
    final List<Bucket> buckets = new ArrayList<>();
    private Tree tree = new Tree(12, members);

    Model() {
        buckets.add(new Bucket(0));
    }

    boolean put(int x) {
        if (!members.add(x)) {
            return false;
        }
        tree = null;
        int bucket = bucketOf(x);
        buckets.get(bucket).members.add(x);
        split(bucket);
        return true;
    }

    boolean take(int x) {
        if (!members.remove(x)) {
            return false;
        }
        tree = null;
        int bucket = bucketOf(x);
        buckets.get(bucket).members.remove(x);
        if (buckets.get(bucket).members.size() < 2 && buckets.size() > 1) {
            int earlier = bucket == buckets.size() - 1 ? bucket - 1 : bucket;
            Bucket gone = buckets.remove(earlier + 1);
            buckets.get(earlier).members.addAll(gone.members);
            split(earlier);
        }
        return true;
    }

    private void split(int bucket) {
        Bucket old = buckets.get(bucket);
        int m = old.members.size();
        if (m <= 8) {
            return;
        }
        List<Integer> sorted = new ArrayList<>(old.members);
        Bucket fresh = new Bucket(sorted.get(m / 2));
        for (int i = m / 2; i < m; i++) {
            fresh.members.add(sorted.get(i));
            old.members.remove(sorted.get(i));
        }
        buckets.add(bucket + 1, fresh);
    }

    int wipe() {
        int count = members.size();
        members.clear();
        tree = null;
        buckets.clear();
        buckets.add(new Bucket(0));
        return count;
    }

    int bucketOf(int x) {
        int found = 0;
        for (int i = 0; i < buckets.size(); i++) {
            if (buckets.get(i).separator <= x) {
                found = i;
            }
        }
        return found;
    }

    Tree tree() {
        if (tree == null) {
            tree = new Tree(12, members);
        }
        return tree;
    }

    Set<Integer> level(int n) {
        Set<Integer> prefixes = new HashSet<>();
        for (int x : members) {
            prefixes.add(x / (1 << (12 - n)));
        }
        return prefixes;
    }

    boolean hasPrefix(int n, int x) {
        int width = 1 << (12 - n);
        Integer next = members.ceiling(x / width * width);
        return next != null && next / width == x / width;
    }

    int longestMatch(int x) {
        int longest = -1;
        for (int n = 0; n <= 12; n++) {
            longest = hasPrefix(n, x) ? n : longest;
        }
        return longest;
    }

    int probes(int x) {
        if (members.isEmpty()) {
            return 0;
        }
        int count = 0;
        int low = 0;
        int high = 13;
        while (high > low + 1) {
            int middle = (low + high) / 2;
            count++;
            if (hasPrefix(middle, x)) {
                low = middle;
            } else {
                high = middle;
            }
        }
        return count;
    }
}
