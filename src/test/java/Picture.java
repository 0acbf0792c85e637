/** All that can be seen of an object, as a text: to tell that a call changed nothing. */
final class Picture {
    private Picture() {
    }

    static String of(SmallNumberSets x) {
        StringBuilder text = new StringBuilder();
        for (int set = 0; set < 3; set++) {
            text.append(of(x, set));
        }
        return text.toString();
    }

    static String of(SmallNumberSets x, int set) {
        StringBuilder text = new StringBuilder("members ").append(members(x, set));
        text.append(" trees ").append(x.trees(set)).append(" clusters");
        for (int cluster = 0; cluster < 64; cluster++) {
            text.append(' ').append(x.clusterMinimum(set, cluster));
            text.append('-').append(x.clusterMaximum(set, cluster));
        }
        text.append(" prefixes");
        for (int level = 0; level <= 12; level++) {
            text.append(' ').append(x.prefixes(set, level));
        }
        return text.append(" buckets ").append(buckets(x, set)).append('\n').toString();
    }

    /** The members in rising order: "10 20 30". */
    static String members(SmallNumberSets x, int set) {
        StringBuilder text = new StringBuilder();
        int size = x.size(set);
        for (int place = 0; place < size; place++) {
            text.append(place == 0 ? "" : " ").append(x.select(set, place));
        }
        return text.toString();
    }

    /** The buckets, each as separator:size: "0:4 50:5". */
    static String buckets(SmallNumberSets x, int set) {
        StringBuilder text = new StringBuilder();
        int count = x.buckets(set);
        for (int bucket = 0; bucket < count; bucket++) {
            text.append(bucket == 0 ? "" : " ").append(x.separator(set, bucket));
            text.append(':').append(x.bucketSize(set, bucket));
        }
        return text.toString();
    }
}
