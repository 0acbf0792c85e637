/** All that can be seen of an object, as a text: to tell that a call changed nothing. */
final class Picture {
    private Picture() {
    }

    static String of(SmallNumberSets x) {
        StringBuilder text = new StringBuilder();
        for (int set = 0; set < 3; set++) {
            text.append(of(x, set));
        }
        return text.toString();
    }

    static String of(SmallNumberSets x, int set) {
        StringBuilder text = new StringBuilder("members");
        for (int place = 0; place < x.size(set); place++) {
            text.append(' ').append(x.select(set, place));
        }
        text.append(" trees ").append(x.trees(set)).append(" clusters");
        for (int cluster = 0; cluster < 64; cluster++) {
            text.append(' ').append(x.clusterMinimum(set, cluster));
            text.append('-').append(x.clusterMaximum(set, cluster));
        }
        text.append(" prefixes");
        for (int level = 0; level <= 12; level++) {
            text.append(' ').append(x.prefixes(set, level));
        }
        text.append(" buckets");
        for (int bucket = 0; bucket < x.buckets(set); bucket++) {
            text.append(' ').append(x.separator(set, bucket)).append(':').append(x.bucketSize(set, bucket));
        }
        return text.append('\n').toString();
    }
}
