import java.util.Arrays;
import java.util.NoSuchElementException;

/** Three sets of numbers from 0 to 4095, each kept as a tree, as a trie and in buckets. */
public final class SmallNumberSets {
    public static final int NONE = -1;

    private static final int NUMBERS = 4096;
    private static final int CLUSTERS = 64;
    private static final int PARTS = 8;
    private static final int LEVELS = 12;
    private static final int BUCKET_MOST = 8;
    private static final int BUCKET_LEAST = 2;
    private static final int STEP_MOST = 1000;
    private static final int COUNT_MOST = 30;

    private final NumberSet first = new NumberSet();
    private final NumberSet second = new NumberSet();
    private final NumberSet third = new NumberSet();

    public SmallNumberSets() {
    }

    // ---- members

    public boolean insert(int set, int number) throws IndexOutOfBoundsException, IllegalArgumentException {
        NumberSet chosen = chosenSet(set);
        needNumber(number);
        return chosen.put(number);
    }

    public int insertRange(int set, int from, int step, int count)
            throws IndexOutOfBoundsException, IllegalArgumentException {
        NumberSet chosen = chosenSet(set);
        needNumber(from);
        needStepAndCount(step, count);
        needNumber(from + (count - 1) * step);
        int added = 0;
        for (int i = 0; i < count; i++) {
            if (chosen.put(from + i * step)) {
                added++;
            }
        }
        return added;
    }

    public int insertAll(int set, int other) throws IndexOutOfBoundsException, IllegalStateException {
        NumberSet chosen = chosenSet(set);
        NumberSet source = chosenSet(other);
        int count = source.buckets.memberCount();
        if (count > COUNT_MOST) {
            throw new IllegalStateException("the other set has too many members");
        }
        int added = 0;
        for (int place = 0; place < count; place++) {
            if (chosen.put(source.buckets.memberAt(place))) {
                added++;
            }
        }
        return added;
    }

    public boolean delete(int set, int number) throws IndexOutOfBoundsException, IllegalArgumentException {
        NumberSet chosen = chosenSet(set);
        needNumber(number);
        return chosen.take(number);
    }

    public int pollFirst(int set) throws IndexOutOfBoundsException, NoSuchElementException {
        NumberSet chosen = chosenSet(set);
        int number = chosen.tree.least();
        needMember(number);
        chosen.take(number);
        return number;
    }

    public int pollLast(int set) throws IndexOutOfBoundsException, NoSuchElementException {
        NumberSet chosen = chosenSet(set);
        int number = chosen.tree.greatest();
        needMember(number);
        chosen.take(number);
        return number;
    }

    public int clear(int set) throws IndexOutOfBoundsException {
        NumberSet chosen = chosenSet(set);
        int count = chosen.buckets.memberCount();
        chosen.wipe();
        return count;
    }

    public int size(int set) throws IndexOutOfBoundsException {
        return chosenSet(set).buckets.memberCount();
    }

    public boolean contains(int set, int number) throws IndexOutOfBoundsException, IllegalArgumentException {
        NumberSet chosen = chosenSet(set);
        needNumber(number);
        return chosen.buckets.has(number);
    }

    // ---- neighbours

    public int successor(int set, int number) throws IndexOutOfBoundsException, IllegalArgumentException {
        NumberSet chosen = chosenSet(set);
        needNumber(number);
        return chosen.tree.after(number);
    }

    public int predecessor(int set, int number) throws IndexOutOfBoundsException, IllegalArgumentException {
        NumberSet chosen = chosenSet(set);
        needNumber(number);
        return chosen.tree.before(number);
    }

    public int rank(int set, int number) throws IndexOutOfBoundsException, IllegalArgumentException {
        NumberSet chosen = chosenSet(set);
        needNumber(number);
        return chosen.buckets.membersBelow(number);
    }

    public int select(int set, int place) throws IndexOutOfBoundsException {
        NumberSet chosen = chosenSet(set);
        needPlace(place, chosen.buckets.memberCount());
        return chosen.buckets.memberAt(place);
    }

    // ---- trees

    public int steps(int set, int number) throws IndexOutOfBoundsException, IllegalArgumentException {
        NumberSet chosen = chosenSet(set);
        needNumber(number);
        return chosen.tree.searchLength(number);
    }

    public int trees(int set) throws IndexOutOfBoundsException {
        return chosenSet(set).tree.treeCount();
    }

    public int clusterMinimum(int set, int cluster) throws IndexOutOfBoundsException {
        NumberSet chosen = chosenSet(set);
        needPlace(cluster, CLUSTERS);
        return Word.least(chosen.tree.cluster(cluster));
    }

    public int clusterMaximum(int set, int cluster) throws IndexOutOfBoundsException {
        NumberSet chosen = chosenSet(set);
        needPlace(cluster, CLUSTERS);
        return Word.greatest(chosen.tree.cluster(cluster));
    }

    // ---- tries

    public int prefixes(int set, int level) throws IndexOutOfBoundsException {
        NumberSet chosen = chosenSet(set);
        needPlace(level, LEVELS + 1);
        return chosen.trie.prefixCount(level);
    }

    public int longestMatch(int set, int number) throws IndexOutOfBoundsException, IllegalArgumentException {
        NumberSet chosen = chosenSet(set);
        needNumber(number);
        return chosen.trie.search(number).match;
    }

    public int probes(int set, int number) throws IndexOutOfBoundsException, IllegalArgumentException {
        NumberSet chosen = chosenSet(set);
        needNumber(number);
        return chosen.trie.search(number).probed;
    }

    // ---- buckets

    public int buckets(int set) throws IndexOutOfBoundsException {
        return chosenSet(set).buckets.bucketCount();
    }

    public int separator(int set, int bucket) throws IndexOutOfBoundsException {
        NumberSet chosen = chosenSet(set);
        needPlace(bucket, chosen.buckets.bucketCount());
        return chosen.buckets.separatorAt(bucket);
    }

    public int bucketSize(int set, int bucket) throws IndexOutOfBoundsException {
        NumberSet chosen = chosenSet(set);
        needPlace(bucket, chosen.buckets.bucketCount());
        return chosen.buckets.membersFrom(chosen.buckets.separatorAt(bucket));
    }

    public int bucketOf(int set, int number) throws IndexOutOfBoundsException, IllegalArgumentException {
        NumberSet chosen = chosenSet(set);
        needNumber(number);
        return chosen.buckets.bucketHolding(number);
    }

    // ---- what the calls need

    private NumberSet chosenSet(int set) {
        switch (set) {
            case 0:
                return first;
            case 1:
                return second;
            case 2:
                return third;
            default:
                throw new IndexOutOfBoundsException("no such set");
        }
    }

    private static void needNumber(int number) {
        if (number < 0 || number >= NUMBERS) {
            throw new IllegalArgumentException("the number is out of range");
        }
    }

    private static void needStepAndCount(int step, int count) {
        if (step < 1 || step > STEP_MOST) {
            throw new IllegalArgumentException("the step is out of range");
        }
        if (count < 1 || count > COUNT_MOST) {
            throw new IllegalArgumentException("the count is out of range");
        }
    }

    private static void needMember(int number) {
        if (number == NONE) {
            throw new NoSuchElementException("the set is empty");
        }
    }

    private static void needPlace(int place, int count) {
        if (place < 0 || place >= count) {
            throw new IndexOutOfBoundsException("no such cluster, level, place or bucket");
        }
    }

    /** One set, kept three times. */
    private static final class NumberSet {
        private final Tree tree = new Tree();
        private final Trie trie = new Trie();
        private final Buckets buckets = new Buckets();

        boolean put(int number) {
            if (buckets.has(number)) {
                return false;
            }
            tree.put(number);
            trie.put(number);
            buckets.put(number);
            return true;
        }

        boolean take(int number) {
            if (!buckets.has(number)) {
                return false;
            }
            tree.take(number);
            trie.take(number);
            buckets.take(number);
            return true;
        }

        void wipe() {
            tree.wipe();
            trie.wipe();
            buckets.wipe();
        }
    }

    /**
     * A tree over 64 numbers, as one word: bit x is set if the tree holds x. The word is enough,
     * as the shape of a tree follows from the numbers that it holds.
     */
    private static final class Word {
        static long bit(int number) {
            return 1L << (number & 63);
        }

        static int least(long word) {
            return word == 0L ? NONE : Long.bitCount((word & -word) - 1L);
        }

        static int greatest(long word) {
            long filled = word | word >>> 1;
            filled |= filled >>> 2;
            filled |= filled >>> 4;
            filled |= filled >>> 8;
            filled |= filled >>> 16;
            filled |= filled >>> 32;
            return Long.bitCount(filled) - 1;
        }

        static int after(long word, int number) {
            // two shifts, as one by 64 would be none
            return least(word & ((-1L << (number & 63)) << 1));
        }

        static int before(long word, int number) {
            return greatest(word & (bit(number) - 1L));
        }

        static int searchLength(long word, int number) {
            boolean knownAtOnce = number < least(word) || number >= greatest(word);
            return knownAtOnce ? 1 : 2;
        }

        static int treeCount(long word) {
            if (word == 0L) {
                return 0;
            }
            // the least number lies in no cluster
            long inClusters = word & (word - 1L);
            int clusters = 0;
            for (int part = 0; part < PARTS; part++) {
                if ((inClusters >>> (part * PARTS) & 255L) != 0L) {
                    clusters++;
                }
            }
            int summary = clusters == 0 ? 0 : 1;
            return 1 + clusters + summary;
        }
    }

    /** The tree over 4096 numbers; its clusters and its summary are words. */
    private static final class Tree {
        private final long[] clusters = new long[CLUSTERS];
        private long summary = 0L;
        private int least = NONE;

        long cluster(int place) {
            return place < 0 || place >= clusters.length ? 0L : clusters[place];
        }

        private void setCluster(int place, long word) {
            if (place < 0 || place >= clusters.length) {
                return;
            }
            clusters[place] = word;
            if (word == 0L) {
                summary &= ~Word.bit(place);
            } else {
                summary |= Word.bit(place);
            }
        }

        void put(int number) {
            if (least == NONE) {
                least = number;
                return;
            }
            // a new least number pushes the old one down into its cluster
            int lower = Math.max(least, number);
            least = Math.min(least, number);
            int high = lower / CLUSTERS;
            setCluster(high, cluster(high) | Word.bit(lower % CLUSTERS));
        }

        void take(int number) {
            int leaving = number;
            if (number == least) {
                // the next number comes up out of its cluster
                leaving = leastInClusters();
                least = leaving;
            }
            if (leaving == NONE) {
                return;
            }
            int high = leaving / CLUSTERS;
            setCluster(high, cluster(high) & ~Word.bit(leaving % CLUSTERS));
        }

        void wipe() {
            Arrays.fill(clusters, 0L);
            summary = 0L;
            least = NONE;
        }

        int least() {
            return least;
        }

        int greatest() {
            return summary == 0L ? least : greatestOf(Word.greatest(summary));
        }

        private int leastInClusters() {
            return summary == 0L ? NONE : leastOf(Word.least(summary));
        }

        private int leastOf(int high) {
            return high * CLUSTERS + Word.least(cluster(high));
        }

        private int greatestOf(int high) {
            return high * CLUSTERS + Word.greatest(cluster(high));
        }

        int after(int number) {
            if (number >= greatest()) {
                return NONE;
            }
            if (number < least) {
                return least;
            }
            int high = number / CLUSTERS;
            if (goesOnInCluster(number)) {
                return high * CLUSTERS + Word.after(cluster(high), number % CLUSTERS);
            }
            return leastOf(Word.after(summary, high));
        }

        int before(int number) {
            if (least == NONE || number <= least) {
                return NONE;
            }
            int high = number / CLUSTERS;
            int low = Word.before(cluster(high), number % CLUSTERS);
            if (low != NONE) {
                return high * CLUSTERS + low;
            }
            int previous = Word.before(summary, high);
            return previous == NONE ? least : greatestOf(previous);
        }

        int searchLength(int number) {
            if (number >= greatest() || number < least) {
                return 1;
            }
            int high = number / CLUSTERS;
            if (goesOnInCluster(number)) {
                return 1 + Word.searchLength(cluster(high), number % CLUSTERS);
            }
            return 1 + Word.searchLength(summary, high);
        }

        private boolean goesOnInCluster(int number) {
            return number % CLUSTERS < Word.greatest(cluster(number / CLUSTERS));
        }

        int treeCount() {
            if (least == NONE) {
                return 0;
            }
            int count = 1 + Word.treeCount(summary);
            for (int place = 0; place < CLUSTERS; place++) {
                count += Word.treeCount(cluster(place));
            }
            return count;
        }
    }

    /** A row of bits: which of the numbers from 0 on it holds. */
    private static final class Bits {
        private final long[] words;

        Bits(int numbers) {
            words = new long[Math.max(numbers, 0) / 64];
        }

        private long word(int place) {
            return place < 0 || place >= words.length ? 0L : words[place];
        }

        boolean has(int number) {
            return (word(number >> 6) & Word.bit(number)) != 0L;
        }

        void put(int number) {
            int place = number >> 6;
            if (place >= 0 && place < words.length) {
                words[place] |= Word.bit(number);
            }
        }

        void take(int number) {
            int place = number >> 6;
            if (place >= 0 && place < words.length) {
                words[place] &= ~Word.bit(number);
            }
        }

        void wipe() {
            Arrays.fill(words, 0L);
        }

        int countBelow(int number) {
            int full = Math.min(number >> 6, words.length);
            int count = Long.bitCount(word(full) & (Word.bit(number) - 1L));
            for (int place = 0; place < full; place++) {
                count += Long.bitCount(word(place));
            }
            return count;
        }

        /** The number that has so many others of the row below it; NONE if there is none. */
        int numberAt(int rank) {
            if (rank < 0) {
                return NONE;
            }
            int left = rank;
            for (int place = 0; place < words.length; place++) {
                long word = word(place);
                int here = Long.bitCount(word);
                if (left < here) {
                    for (int i = 0; i < left; i++) {
                        word &= word - 1L;
                    }
                    return place * 64 + Word.least(word);
                }
                left -= here;
            }
            return NONE;
        }
    }

    /** The trie: the prefix p of level n is the node 2^n + p, so the parent of a node is half of it. */
    private static final class Trie {
        private final Bits nodes = new Bits(2 * NUMBERS);

        private static int node(int number, int level) {
            return (NUMBERS + number) >> (LEVELS - level);
        }

        void put(int number) {
            for (int level = LEVELS; level >= 0; level--) {
                nodes.put(node(number, level));
            }
        }

        void take(int number) {
            nodes.take(node(number, LEVELS));
            for (int level = LEVELS - 1; level >= 0; level--) {
                int node = node(number, level);
                if (nodes.has(2 * node) || nodes.has(2 * node + 1)) {
                    return;
                }
                nodes.take(node);
            }
        }

        void wipe() {
            nodes.wipe();
        }

        int prefixCount(int level) {
            int start = node(0, level);
            return nodes.countBelow(2 * start) - nodes.countBelow(start);
        }

        MatchSearch search(int number) {
            if (!nodes.has(node(number, 0))) {
                return new MatchSearch(NONE, 0);
            }
            int low = 0;
            int high = LEVELS + 1;
            int probed = 0;
            for (int i = 0; i <= LEVELS && high > low + 1; i++) {
                int level = (low + high) / 2;
                probed++;
                if (nodes.has(node(number, level))) {
                    low = level;
                } else {
                    high = level;
                }
            }
            return new MatchSearch(low, probed);
        }
    }

    /** What the search for the longest match found, and how many levels it probed. */
    private static final class MatchSearch {
        private final int match;
        private final int probed;

        MatchSearch(int match, int probed) {
            this.match = match;
            this.probed = probed;
        }
    }

    /**
     * The buckets: the members of a bucket are those from its separator up to the next one, so a
     * bucket is split by putting a separator in, and merged by taking one out.
     */
    private static final class Buckets {
        private final Bits members = new Bits(NUMBERS);
        private final Bits separators = new Bits(NUMBERS);

        Buckets() {
            separators.put(0);
        }

        boolean has(int number) {
            return members.has(number);
        }

        int memberCount() {
            return members.countBelow(NUMBERS);
        }

        int membersBelow(int number) {
            return members.countBelow(number);
        }

        int memberAt(int place) {
            return members.numberAt(place);
        }

        int bucketCount() {
            return separators.countBelow(NUMBERS);
        }

        int separatorAt(int bucket) {
            return separators.numberAt(bucket);
        }

        int bucketHolding(int number) {
            return separators.countBelow(number + 1) - 1;
        }

        /** How many members the bucket with this separator has. */
        int membersFrom(int separator) {
            int next = separators.numberAt(separators.countBelow(separator + 1));
            int end = next == NONE ? NUMBERS : next;
            return members.countBelow(end) - members.countBelow(separator);
        }

        void put(int number) {
            members.put(number);
            splitIfLarge(separatorAt(bucketHolding(number)));
        }

        void take(int number) {
            members.take(number);
            int bucket = bucketHolding(number);
            if (membersFrom(separatorAt(bucket)) >= BUCKET_LEAST || bucketCount() == 1) {
                return;
            }
            boolean isLast = bucket == bucketCount() - 1;
            int earlier = isLast ? bucket - 1 : bucket;
            separators.take(separatorAt(earlier + 1));
            splitIfLarge(separatorAt(earlier));
        }

        private void splitIfLarge(int separator) {
            int count = membersFrom(separator);
            if (count > BUCKET_MOST) {
                separators.put(memberAt(membersBelow(separator) + count / 2));
            }
        }

        void wipe() {
            members.wipe();
            separators.wipe();
            separators.put(0);
        }
    }
}
