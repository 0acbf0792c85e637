/** The sentences of 'Terms' about the trees, the tries and the buckets. */
final class TermSentences {
    private static final String TERMS = "Terms";

    private final Check check;
    private final Document document;

    TermSentences(Check check, Document document) {
        this.check = check;
        this.document = document;
    }

    void run() {
        sets();
        treeHolds();
        treeParts();
        treeHighAndLow();
        treeLeast();
        treeSummary();
        searchEnds();
        searchKnownAtOnce();
        searchInCluster();
        searchInSummary();
        prefixes();
        longestMatch();
        longestMatchSearch();
        bucketNumbers();
        bucketBelongs();
        bucketSplit();
        bucketPut();
        bucketTake();
        bucketNothingElse();
    }

    private void says(String sentence, Runnable test) {
        document.says(TERMS, sentence, test);
    }

    private void same(String what, Object got, Object due) {
        check.same(what, got, due);
    }

    // ---- the sets

    private void sets() {
        says("There are three sets, 0 to 2, empty at first.", () -> {
            for (int set = 0; set <= 2; set++) {
                same("size of " + set, Made.empty().size(set), 0);
                same("buckets of " + set, Picture.buckets(Made.empty(), set), "0:0");
                SmallNumberSets x = Made.empty();
                x.insert(set, 7);
                same("of set 0, 7 put into " + set, x.contains(0, 7), set == 0);
                same("of set 1, 7 put into " + set, x.contains(1, 7), set == 1);
                same("of set 2, 7 put into " + set, x.contains(2, 7), set == 2);
            }
            for (int set : new int[] {-1, 3}) {
                check.refuses("size of " + set, IndexOutOfBoundsException.class, () -> Made.empty().size(set));
            }
        });

        says("Their members are numbers from 0 to 4095.", () -> {
            same("0 and 4095", Picture.members(Made.with(4095, 0), 1), "0 4095");
            same("all of them", Made.full().size(1), 4096);
            for (int number : new int[] {-1, 4096}) {
                check.refuses("insert " + number, IllegalArgumentException.class,
                        () -> Made.empty().insert(1, number));
            }
        });
    }

    // ---- trees

    private void treeHolds() {
        says("A tree over 2^k numbers, for k = 12, 6 or 3, holds some of the numbers from 0 to 2^k - 1; "
                + "it is empty if it holds none.", () -> {
            same("empty", Made.empty().trees(1), 0);
            same("emptied", Made.without(Made.with(0), 0).trees(1), 0);
            same("0 alone", Made.with(0).trees(1), 1);
            same("4095 alone", Made.with(4095).trees(1), 1);
            same("a cluster holds 0", Made.with(0, 64).clusterMinimum(1, 1), 0);
            same("a cluster holds 63", Made.with(0, 127).clusterMaximum(1, 1), 63);
            // of the cluster 1, the last number of the last part
            same("a part holds 0 and 7", Made.with(0, 64, 72, 79).trees(1), 5);
        });

        says("A tree with k = 3 has no parts.", () -> {
            // 1 tree, and 65 trees over 64 numbers, each with 8 clusters and a summary
            same("full", Made.full().trees(1), 651);
            same("a full part", Made.by(x -> {
                x.insert(1, 0);
                x.insertRange(1, 64, 1, 8);
            }).trees(1), 5);
        });

        says("The tree of a set is a tree over 2^12 numbers that holds the members of the set.", () -> {
            SmallNumberSets x = Made.with(0, 4095);
            same("least", x.successor(1, 0), 4095);
            same("greatest", x.predecessor(1, 4095), 0);
            same("not in another set", x.trees(0), 0);
        });
    }

    private void treeParts() {
        says("A tree with k = 12 or k = 6 has 2^(k/2) clusters, numbered from 0, and a summary, "
                + "all of which are trees over 2^(k/2) numbers.", () -> {
            SmallNumberSets full = Made.full();
            for (int cluster = 0; cluster < 64; cluster++) {
                same("least of " + cluster, full.clusterMinimum(1, cluster), cluster == 0 ? 1 : 0);
                same("greatest of " + cluster, full.clusterMaximum(1, cluster), 63);
            }
            // 0 apart; in the cluster 1 the 0 apart, then one number for each of its 8 parts
            int[] numbers = {0, 64, 65, 72, 80, 88, 96, 104, 112, 127};
            same("8 parts and a summary in a cluster", Made.with(numbers).trees(1), 2 + 10);
            for (int i = 2; i < numbers.length; i++) {
                same("without " + numbers[i], Made.without(Made.with(numbers), numbers[i]).trees(1), 2 + 9);
            }
            // in the summary the 1 apart, then one number for each of its 8 parts
            SmallNumberSets wide = Made.with(0, 64);
            for (int part = 0; part < 8; part++) {
                wide.insert(1, (part * 8 + 7) * 64);
            }
            same("8 parts and a summary in the summary", wide.trees(1), 1 + 9 + 10);
        });
    }

    private void treeHighAndLow() {
        says("The high part of a number x that it holds is x / 2^(k/2), rounded down, "
                + "the low part is the remainder.", () -> {
            int[][] rows = {{1, 0, 1}, {63, 0, 63}, {64, 1, 0}, {127, 1, 63}, {128, 2, 0}, {4031, 62, 63},
                {4032, 63, 0}, {4095, 63, 63}};
            for (int[] row : rows) {
                SmallNumberSets x = Made.with(0, row[0]);
                for (int cluster = 0; cluster < 64; cluster++) {
                    same(row[0] + " in " + cluster, x.clusterMinimum(1, cluster), cluster == row[1] ? row[2] : -1);
                }
            }
            // with k = 6: 7 and 8 lie in two parts, 8 and 15 in one
            same("parts of 7 and 8", Made.with(0, 64, 71, 72).trees(1), 2 + 4);
            same("parts of 8 and 15", Made.with(0, 64, 72, 79).trees(1), 2 + 3);
            same("parts of 15 and 16", Made.with(0, 64, 79, 80).trees(1), 2 + 4);
        });
    }

    private void treeLeast() {
        says("Its least number is held in none of its clusters; each other number that it holds is held, "
                + "by its low part, in the cluster that is its high part.", () -> {
            same("the only number", Made.with(70).clusterMinimum(1, 1), -1);
            SmallNumberSets lower = Made.with(70, 65);
            same("a lower one pushes it down", lower.clusterMinimum(1, 1), 6);
            same("alone", lower.clusterMaximum(1, 1), 6);
            SmallNumberSets higher = Made.with(65, 70);
            same("a higher one goes down itself", higher.clusterMinimum(1, 1), 6);
            SmallNumberSets gone = Made.without(Made.with(65, 70, 200), 65);
            same("the next comes up", gone.clusterMinimum(1, 1), -1);
            same("others stay", gone.clusterMinimum(1, 3), 8);
            same("polled, the next comes up", Made.by(x -> {
                x.insertRange(1, 65, 5, 2);
                x.pollFirst(1);
            }).clusterMaximum(1, 1), -1);
            same("in a cluster too", Made.with(0, 64).trees(1), 3);
            same("in a cluster of two", Made.with(0, 64, 65).trees(1), 5);
            same("pushed down in a cluster", Made.with(0, 65, 64).trees(1), 5);
            same("come up in a cluster", Made.without(Made.with(0, 64, 65), 64).trees(1), 3);
            same("in the summary too", Made.with(0, 64, 128).trees(1), 6);
            same("come up in the summary", Made.without(Made.with(0, 64, 128), 64).trees(1), 3);
        });
    }

    private void treeSummary() {
        says("The summary holds the numbers of the clusters that are not empty.", () -> {
            same("no cluster", Made.with(4000).trees(1), 1);
            same("one", Made.with(0, 4000).trees(1), 3);
            same("one of two numbers", Made.with(0, 4000, 4001).trees(1), 5);
            SmallNumberSets x = Made.without(Made.with(0, 64, 65, 128, 4000), 128);
            same("emptied clusters go", x.trees(1), 2 + 3 + 1 + 2);
            same("and are passed by", x.successor(1, 65), 4000);
            same("backwards too", x.predecessor(1, 4000), 65);
            Made.without(x, 64);
            same("a cluster with one left stays", x.successor(1, 0), 65);
        });
    }

    // ---- the search in the trees

    private void searchEnds() {
        says("The search for the least number greater than x in a tree goes like this.", () -> {
            SmallNumberSets x = Made.with(100, 200, 4095, 101);
            int[][] rows = {{99, 100, 1}, {100, 101, 2}, {101, 200, 3}, {200, 4095, 3}, {4095, -1, 1}};
            for (int[] row : rows) {
                same("successor " + row[0], x.successor(1, row[0]), row[1]);
                same("steps " + row[0], x.steps(1, row[0]), row[2]);
            }
        });

        says("If the tree is empty, or x is not less than its greatest number, there is none.", () -> {
            for (int number : new int[] {0, 1, 4095}) {
                same("empty, after " + number, Made.empty().successor(1, number), -1);
                same("empty, steps " + number, Made.empty().steps(1, number), 1);
            }
            same("the greatest", Made.with(5, 70).successor(1, 70), -1);
            same("the greatest, steps", Made.with(5, 70).steps(1, 70), 1);
            same("above it", Made.with(5, 70).successor(1, 71), -1);
            same("above it, steps", Made.with(5, 70).steps(1, 71), 1);
            same("far above it, steps", Made.with(5, 70).steps(1, 4095), 1);
            same("just below it", Made.with(5, 70).successor(1, 69), 70);
            same("just below it, steps", Made.with(5, 70).steps(1, 69), 2);
            same("the only one", Made.with(0).successor(1, 0), -1);
            same("the only one, steps", Made.with(0).steps(1, 0), 1);
            same("the last number of all", Made.with(0, 4095).successor(1, 4095), -1);
            same("emptied", Made.without(Made.with(9), 9).successor(1, 3), -1);
        });
    }

    private void searchKnownAtOnce() {
        says("Otherwise, if x is less than its least number, or k is 3, the answer is known at once.", () -> {
            SmallNumberSets x = Made.with(50, 70, 75, 200, 300, 4095);
            same("0", x.steps(1, 0), 1);
            same("just below the least", x.steps(1, 49), 1);
            same("it is the least", x.successor(1, 49), 50);
            same("the least", x.steps(1, 50), 2);
            same("just below the least of the cluster", x.steps(1, 69), 2);
            same("the least of the cluster", x.steps(1, 70), 3);
            same("below the least of the summary", x.steps(1, 63), 2);
            same("the least of the summary", x.steps(1, 75), 3);
            SmallNumberSets part = Made.by(y -> {
                y.insert(1, 0);
                y.insertRange(1, 64, 1, 8);
            });
            for (int number = 64; number <= 70; number++) {
                same("in a part, " + number, part.steps(1, number), 3);
            }
        });
    }

    private void searchInCluster() {
        says("Otherwise, let h be the high part and l the low part of x.", () -> {
            SmallNumberSets edge = Made.with(0, 63, 64, 127, 128);
            int[][] rows = {{0, 63, 2}, {62, 63, 2}, {63, 64, 3}, {64, 127, 3}, {126, 127, 3}, {127, 128, 3}};
            for (int[] row : rows) {
                same("successor " + row[0], edge.successor(1, row[0]), row[1]);
                same("steps " + row[0], edge.steps(1, row[0]), row[2]);
            }
        });

        says("If the cluster h is not empty, and l is less than its greatest number, "
                + "the search goes on in the cluster h, for the least number greater than l.", () -> {
            SmallNumberSets x = Made.with(0, 70, 75, 200, 300, 4095);
            same("l below the only one", x.steps(1, 256), 2);
            same("l just below the only one", x.steps(1, 299), 2);
            same("l just below the greatest", x.steps(1, 74), 3);
            same("the greatest of the cluster", x.successor(1, 74), 75);
            same("the next of the cluster", x.successor(1, 70), 75);
            // 64 + 3 and 64 + 5 lie in one part, 64 + 40 in another
            SmallNumberSets parts = Made.with(0, 64, 67, 69, 104);
            same("on in a part", parts.steps(1, 68), 3);
            same("on in a part, found", parts.successor(1, 68), 69);
            same("on in the summary of the cluster", parts.steps(1, 69), 3);
            same("on in the summary of the cluster, found", parts.successor(1, 69), 104);
            same("the last cluster", x.steps(1, 4094), 2);
        });
    }

    private void searchInSummary() {
        says("If not, the search goes on in the summary, for the least number greater than h; "
                + "the least number of the cluster that is found there completes the answer.", () -> {
            SmallNumberSets x = Made.with(0, 70, 75, 200, 210, 300, 4095);
            same("l is the greatest", x.successor(1, 75), 200);
            same("l is the greatest, steps", x.steps(1, 75), 3);
            same("l is above it", x.successor(1, 76), 200);
            same("l is above it, steps", x.steps(1, 76), 3);
            same("l is the only one", x.successor(1, 300), 4095);
            same("l is the only one, steps", x.steps(1, 300), 3);
            same("the cluster is empty", x.successor(1, 130), 200);
            same("the cluster is empty, steps", x.steps(1, 130), 3);
            same("h below the least of the summary", x.successor(1, 1), 70);
            same("h below the least of the summary, steps", x.steps(1, 1), 2);
            same("h just below the greatest of the summary", x.successor(1, 62 * 64 + 63), 4095);
            // the cluster 1 is the least of the summary, the cluster 9 lies in another part of it
            SmallNumberSets parts = Made.with(0, 64, 9 * 64);
            same("on in the summary of the summary", parts.steps(1, 64), 3);
            same("on in the summary of the summary, found", parts.successor(1, 64), 9 * 64);
        });
    }

    // ---- tries

    private void prefixes() {
        says("The prefix of level n, 0 to 12, of a number is the number divided by 2^(12 - n), rounded down: "
                + "its first n of 12 bits.", () -> {
            // two numbers share the prefix of a level up to the bit in which they differ
            for (int bit = 0; bit < 12; bit++) {
                SmallNumberSets x = Made.with(4095, 4095 - (1 << bit));
                for (int level = 0; level <= 12; level++) {
                    same("bit " + bit + " level " + level, x.prefixes(1, level), level >= 12 - bit ? 2 : 1);
                }
            }
            same("2047 and 2048 at level 1", Made.with(2047, 2048).prefixes(1, 1), 2);
            same("0 and 4095 at level 0", Made.with(0, 4095).prefixes(1, 0), 1);
            same("4094 and 4095 at level 11", Made.with(4094, 4095).prefixes(1, 11), 1);
            same("4094 and 4095 at level 12", Made.with(4094, 4095).prefixes(1, 12), 2);
        });

        says("The level n of the trie of a set has the prefixes of level n of all members, each once.", () -> {
            SmallNumberSets full = Made.full();
            for (int level = 0; level <= 12; level++) {
                same("empty, level " + level, Made.empty().prefixes(1, level), 0);
                same("one member, level " + level, Made.with(4095).prefixes(1, level), 1);
                same("full, level " + level, full.prefixes(1, level), 1 << level);
                same("emptied, level " + level, Made.without(Made.with(4095), 4095).prefixes(1, level), 0);
            }
            same("a shared prefix stays without the lower one",
                    Made.without(Made.with(6, 7, 5), 6).prefixes(1, 11), 2);
            SmallNumberSets x = Made.without(Made.with(6, 7, 5), 7);
            same("a shared prefix stays without the higher one", x.prefixes(1, 11), 2);
            same("its own goes", x.prefixes(1, 12), 2);
            Made.without(x, 6);
            same("with the last member it goes", x.prefixes(1, 11), 1);
        });
    }

    private void longestMatch() {
        says("The longest match of a number x with a set that is not empty is the greatest level "
                + "that has the prefix of x of that level.", () -> {
            for (int number : new int[] {0, 1, 2048, 4095}) {
                same("a member, " + number, Made.with(number).longestMatch(1, number), 12);
                for (int bit = 0; bit < 12; bit++) {
                    same(number + " and bit " + bit, Made.with(number).longestMatch(1, number ^ (1 << bit)), 11 - bit);
                }
            }
            same("the greatest of several", Made.with(0, 4095, 2048, 2050).longestMatch(1, 2051), 11);
            same("level 0 alone", Made.with(0).longestMatch(1, 4095), 0);
            same("after the better one went", Made.without(Made.with(0, 2048), 2048).longestMatch(1, 2048), 0);
        });
    }

    private void longestMatchSearch() {
        says("It is searched for like this: low is 0 and high is 13 at first; as long as high is greater than "
                + "low + 1, the level (low + high) / 2, rounded down, is probed: if it has the prefix of x, "
                + "it becomes low, otherwise high.", () -> {
            // by hand: 6 3 1 | 6 3 1 2 | 6 3 1 2 | 6 3 4 | 6 3 4 5 | 6 3 4 5 | 6 9 7 | 6 9 7 8 | 6 9 7 8
            // | 6 9 11 10 | 6 9 11 10 | 6 9 11 12 | 6 9 11 12
            int[] due = {3, 4, 4, 3, 4, 4, 3, 4, 4, 4, 4, 4, 4};
            for (int match = 0; match <= 12; match++) {
                int number = match == 12 ? 0 : 1 << (11 - match);
                same("probes at match " + match, Made.with(0).probes(1, number), due[match]);
            }
        });

        says("In the end low is the longest match.", () -> {
            for (int match = 0; match <= 12; match++) {
                int number = match == 12 ? 4095 : 4095 - (1 << (11 - match));
                same("match " + match, Made.with(4095).longestMatch(1, number), match);
            }
        });
    }

    // ---- buckets

    private void bucketNumbers() {
        says("The members of a set lie in buckets, at least one, numbered from 0.", () -> {
            same("empty", Made.empty().buckets(1), 1);
            same("emptied", Made.without(Made.with(3), 3).buckets(1), 1);
            same("numbered from 0", Made.twoBuckets().bucketSize(1, 0), 4);
            same("up to the last", Made.twoBuckets().bucketSize(1, 1), 5);
            check.refuses("no bucket -1", IndexOutOfBoundsException.class, () -> Made.twoBuckets().bucketSize(1, -1));
            check.refuses("no bucket 2", IndexOutOfBoundsException.class, () -> Made.twoBuckets().bucketSize(1, 2));
        });

        says("Each bucket has a separator; that of the bucket 0 is 0, and the others have greater ones, "
                + "by rising numbers.", () -> {
            same("empty", Made.empty().separator(1, 0), 0);
            same("one bucket without 0", Made.with(5, 6).separator(1, 0), 0);
            same("three", Picture.buckets(Made.threeBuckets(), 1), "0:4 5:5 50:5");
            same("0 stays when the bucket 0 is merged",
                    Made.without(Made.twoBuckets(), 10, 20, 30).separator(1, 0), 0);
            SmallNumberSets full = Made.full();
            for (int bucket = 1; bucket < 300; bucket++) {
                same("full, " + bucket, full.separator(1, bucket), 4 * bucket);
            }
        });

        says("A set has one empty bucket at first.", () -> {
            for (int set = 0; set <= 2; set++) {
                same("set " + set, Picture.buckets(Made.empty(), set), "0:0");
            }
        });
    }

    private void bucketBelongs() {
        says("A number belongs to the last bucket whose separator is not greater than it.", () -> {
            SmallNumberSets x = Made.threeBuckets();
            int[][] rows = {{0, 0}, {4, 0}, {5, 1}, {6, 1}, {49, 1}, {50, 2}, {51, 2}, {4095, 2}};
            for (int[] row : rows) {
                same("bucketOf " + row[0], x.bucketOf(1, row[0]), row[1]);
            }
            Made.without(x, 50);
            same("the separator, no member", x.bucketOf(1, 50), 2);
            same("empty, 0", Made.empty().bucketOf(1, 0), 0);
            same("empty, 4095", Made.empty().bucketOf(1, 4095), 0);
            same("full, 4087", Made.full().bucketOf(1, 4087), 1021);
            same("full, 4088", Made.full().bucketOf(1, 4088), 1022);
            same("full, 4095", Made.full().bucketOf(1, 4095), 1022);
        });
    }

    private void bucketSplit() {
        says("A bucket is split as follows, if it has more than 8 members: of its m members, in rising order, "
                + "the first m / 2, rounded down, stay; the others go to a new bucket behind it, "
                + "whose separator is the least of them.", () -> {
            same("8 members", Picture.buckets(Made.with(10, 20, 30, 40, 50, 60, 70, 80), 1), "0:8");
            same("9 members", Picture.buckets(Made.with(10, 20, 30, 40, 50, 60, 70, 80, 90), 1), "0:4 50:5");
            same("in rising order", Picture.buckets(Made.with(90, 10, 80, 20, 70, 30, 60, 40, 50), 1), "0:4 50:5");
            same("the last put in is the least", Picture.buckets(Made.with(20, 30, 40, 50, 60, 70, 80, 90, 0), 1),
                    "0:4 50:5");
            same("0 and 4095", Picture.buckets(Made.with(0, 1, 2, 3, 4091, 4092, 4093, 4094, 4095), 1), "0:4 4091:5");
            same("behind it, not at the end", Picture.buckets(Made.threeBuckets(), 1), "0:4 5:5 50:5");
        });

        says("(Each of both then has at most 8 members.)", () -> {
            SmallNumberSets full = Made.full();
            same("full, buckets", full.buckets(1), 1023);
            for (int bucket = 0; bucket < 300; bucket++) {
                same("full, " + bucket, full.bucketSize(1, bucket), 4);
            }
            same("full, the last", full.bucketSize(1, 1022), 8);
        });
    }

    private void bucketPut() {
        says("When a number is put in, it joins the bucket to which it belongs; then that is split, "
                + "if it has more than 8 members.", () -> {
            SmallNumberSets x = Made.twoBuckets();
            x.insert(1, 49);
            same("just below the separator", Picture.buckets(x, 1), "0:5 50:5");
            x.delete(1, 50);
            x.insert(1, 50);
            same("the separator itself",
                    Picture.buckets(x, 1), "0:5 50:5");
            x.insert(1, 0);
            x.insert(1, 4095);
            same("0 and 4095", Picture.buckets(x, 1), "0:6 50:6");
            x.insertRange(1, 1, 1, 2);
            same("8 members", Picture.buckets(x, 1), "0:8 50:6");
            x.insert(1, 1);
            same("a member joins nothing", Picture.buckets(x, 1), "0:8 50:6");
            x.insert(1, 48);
            same("9 members", Picture.buckets(x, 1), "0:4 20:5 50:6");
            x.insertRange(1, 4093, 1, 2);
            same("8 in the last", Picture.buckets(x, 1), "0:4 20:5 50:8");
            x.insert(1, 4092);
            same("9 in the last", Picture.buckets(x, 1), "0:4 20:5 50:4 90:5");
            SmallNumberSets below = Made.twoBuckets();
            below.insertRange(1, 1, 1, 4);
            below.insert(1, 49);
            same("the ninth just below the separator", Picture.buckets(below, 1), "0:4 10:5 50:5");
            SmallNumberSets itself = Made.without(Made.twoBuckets(), 50);
            itself.insertRange(1, 91, 1, 4);
            itself.insert(1, 50);
            same("the ninth is the separator", Picture.buckets(itself, 1), "0:4 50:4 90:5");
            // each number splits before the next one comes
            same("one after the other", Picture.buckets(Made.by(y -> y.insertRange(1, 1, 1, 13)), 1), "0:4 5:4 9:5");
        });
    }

    private void bucketTake() {
        says("When a number is taken out, it leaves its bucket; then, if that has fewer than 2 members, "
                + "and there is another bucket, it is merged with the bucket behind it, or, if it is the last one, "
                + "with the bucket ahead of it: the later one of both goes, with its separator, and its members join "
                + "the earlier one, which is split then, if it has more than 8 members.", () -> {
            same("2 members are enough", Picture.buckets(Made.without(Made.twoBuckets(), 10, 20), 1), "0:2 50:5");
            same("2 in the last are enough",
                    Picture.buckets(Made.without(Made.twoBuckets(), 50, 60, 70), 1), "0:4 50:2");
            same("no other bucket, 1 left", Picture.buckets(Made.without(Made.with(7, 9), 9), 1), "0:1");
            same("no other bucket, none left", Picture.buckets(Made.without(Made.with(7), 7), 1), "0:0");
            same("nothing is taken out",
                    Picture.buckets(Made.without(Made.twoBuckets(), 10, 20, 10, 35), 1), "0:2 50:5");
            same("the separator stays when its number goes",
                    Picture.buckets(Made.without(Made.twoBuckets(), 50), 1), "0:4 50:4");
            SmallNumberSets below = Made.threeBuckets();
            below.insert(1, 49);
            same("the one just below a separator",
                    Picture.buckets(Made.without(below, 5, 10, 20, 30, 49), 1), "0:4 5:6");
            same("the separator itself",
                    Picture.buckets(Made.without(Made.threeBuckets(), 60, 70, 80, 50), 1), "0:4 5:6");
            SmallNumberSets first = Made.without(Made.twoBuckets(), 10, 20);
            first.pollFirst(1);
            same("pollFirst", Picture.buckets(first, 1), "0:6");
            SmallNumberSets last = Made.without(Made.twoBuckets(), 50, 60, 70);
            last.pollLast(1);
            same("pollLast", Picture.buckets(last, 1), "0:5");
            takeFromFirst();
            takeFromMiddle();
            takeFromLast();
        });
    }

    /** The bucket 0 gets too small, with 5, 7 and 8 members behind it. */
    private void takeFromFirst() {
        SmallNumberSets x = Made.without(Made.twoBuckets(), 10, 20, 30);
        same("first, 1 + 5", Picture.buckets(x, 1), "0:6");
        same("first, its members", Picture.members(x, 1), "40 50 60 70 80 90");
        SmallNumberSets seven = Made.twoBuckets();
        seven.insertRange(1, 51, 1, 2);
        same("first, 1 + 7", Picture.buckets(Made.without(seven, 10, 20, 30), 1), "0:8");
        SmallNumberSets eight = Made.twoBuckets();
        eight.insertRange(1, 51, 1, 3);
        same("first, 1 + 8", Picture.buckets(Made.without(eight, 10, 20, 30), 1), "0:4 53:5");
        same("first of three", Picture.buckets(Made.without(Made.threeBuckets(), 1, 2, 3), 1), "0:6 50:5");
    }

    /** The bucket 1 of three gets too small: it is merged with the one behind, not with the one ahead. */
    private void takeFromMiddle() {
        SmallNumberSets x = Made.without(Made.threeBuckets(), 5, 10, 20, 30);
        same("middle, 1 + 5", Picture.buckets(x, 1), "0:4 5:6");
        same("middle, the separator of the later one is gone", x.bucketOf(1, 50), 1);
        SmallNumberSets seven = Made.threeBuckets();
        seven.insertRange(1, 51, 1, 2);
        same("middle, 1 + 7", Picture.buckets(Made.without(seven, 5, 10, 20, 30), 1), "0:4 5:8");
        SmallNumberSets eight = Made.threeBuckets();
        eight.insertRange(1, 51, 1, 3);
        same("middle, 1 + 8", Picture.buckets(Made.without(eight, 5, 10, 20, 30), 1), "0:4 5:4 53:5");
    }

    /** The last bucket gets too small: it is merged with the one ahead. */
    private void takeFromLast() {
        SmallNumberSets x = Made.without(Made.twoBuckets(), 50, 60, 70, 80);
        same("last, 4 + 1", Picture.buckets(x, 1), "0:5");
        same("last, its members", Picture.members(x, 1), "10 20 30 40 90");
        SmallNumberSets seven = Made.twoBuckets();
        seven.insertRange(1, 1, 1, 3);
        same("last, 7 + 1", Picture.buckets(Made.without(seven, 50, 60, 70, 80), 1), "0:8");
        SmallNumberSets eight = Made.twoBuckets();
        eight.insertRange(1, 1, 1, 4);
        same("last, 8 + 1", Picture.buckets(Made.without(eight, 50, 60, 70, 80), 1), "0:4 10:5");
        same("last of three", Picture.buckets(Made.without(Made.threeBuckets(), 60, 70, 80, 90), 1), "0:4 5:6");
    }

    private void bucketNothingElse() {
        says("(After that nothing else is merged.)", () -> {
            SmallNumberSets x = Made.without(Made.threeBuckets(), 1, 2, 5, 10, 20, 50, 60, 70);
            same("three small ones", Picture.buckets(x, 1), "0:2 5:2 50:2");
            same("one of them less", Picture.buckets(Made.without(x, 3), 1), "0:3 50:2");
            same("the last less", Picture.buckets(Made.without(x, 90), 1), "0:4");
            SmallNumberSets y = Made.without(Made.threeBuckets(), 1, 2, 5, 10, 20, 50, 60, 70);
            same("the middle one less", Picture.buckets(Made.without(y, 40), 1), "0:2 5:3");
        });
    }
}
