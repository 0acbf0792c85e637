/** What the promises 1 to 25 say that the calls do and return, with the edges. */
final class PromiseSentences {
    private static final int NONE = SmallNumberSets.NONE;

    private final Check check;
    private final Document document;

    PromiseSentences(Check check, Document document) {
        this.check = check;
        this.document = document;
    }

    void run() {
        newObject();
        insert();
        insertRange();
        insertAll();
        insertAllOfItself();
        delete();
        pollFirst();
        pollLast();
        clear();
        size();
        contains();
        successor();
        predecessor();
        rank();
        select();
        steps();
        trees();
        clusterMinimum();
        clusterMaximum();
        prefixes();
        longestMatch();
        probes();
        buckets();
        separator();
        bucketSize();
        bucketOf();
    }

    private void says(int promise, String sentence, Runnable test) {
        document.says("Promise " + promise, sentence, test);
    }

    private void same(String what, Object got, Object due) {
        check.same(what, got, due);
    }

    // ---- promise 1, and the constant

    private void newObject() {
        says(1, "Three empty sets.", () -> {
            for (int set = 0; set <= 2; set++) {
                same("members of " + set, Picture.members(Made.empty(), set), "");
                same("trees of " + set, Made.empty().trees(set), 0);
                same("prefixes of " + set, Made.empty().prefixes(set, 0), 0);
                same("buckets of " + set, Picture.buckets(Made.empty(), set), "0:0");
            }
            Made.with(1, 2, 3);
            same("nothing of an earlier object", Made.empty().size(1), 0);
        });

        document.says("Terms", "The constants: `NONE = -1`: No number.", () -> {
            same("NONE", SmallNumberSets.NONE, -1);
            same("what a call answers", Made.empty().successor(0, 0), -1);
        });
    }

    // ---- members

    private void insert() {
        says(2, "Puts a number in.", () -> {
            for (int number : new int[] {0, 1, 63, 64, 2047, 2048, 4094, 4095}) {
                SmallNumberSets x = Made.with(number);
                same("members", Picture.members(x, 1), String.valueOf(number));
                same("contains " + number, x.contains(1, number), true);
                same("rank behind " + number, x.rank(1, 4095), number == 4095 ? 0 : 1);
                same("longest match of " + number, x.longestMatch(1, number), 12);
            }
            same("into a full set", Made.full().insert(1, 4095), false);
        });

        says(2, "Returns true if it was not a member before.", () -> {
            SmallNumberSets x = Made.empty();
            same("new", x.insert(1, 5), true);
            same("a member", x.insert(1, 5), false);
            same("a member of another set", x.insert(2, 5), true);
            x.delete(1, 5);
            same("taken out before", x.insert(1, 5), true);
            x.clear(1);
            same("cleared before", x.insert(1, 5), true);
            SmallNumberSets y = Made.without(Made.full(), 4095);
            same("the last that was missing", y.insert(1, 4095), true);
            same("a member of a full set", y.insert(1, 0), false);
            same("a member changes nothing", Picture.of(Made.with(5, 9, 9, 5), 1), Picture.of(Made.with(5, 9), 1));
        });
    }

    private void insertRange() {
        says(3, "Puts several numbers in, one after the other: from, from + step, and so on.", () -> {
            SmallNumberSets x = Made.by(y -> y.insertRange(1, 7, 1000, 5));
            same("members", Picture.members(x, 1), "7 1007 2007 3007 4007");
            same("one number", Picture.members(Made.by(y -> y.insertRange(1, 7, 1000, 1)), 1), "7");
            same("each splits before the next", Picture.buckets(Made.by(y -> y.insertRange(1, 1, 1, 30)), 1),
                    "0:4 5:4 9:4 13:4 17:4 21:4 25:6");
            SmallNumberSets twice = Made.by(y -> {
                y.insertRange(1, 10, 10, 9);
                y.insertRange(1, 10, 10, 9);
            });
            same("members change nothing", Picture.buckets(twice, 1), "0:4 50:5");
        });

        says(3, "Returns how many of them were not members before.", () -> {
            same("all of them new", Made.empty().insertRange(1, 0, 1, 30), 30);
            same("some new", Made.with(0, 2, 4).insertRange(1, 0, 1, 5), 2);
            same("none new", Made.full().insertRange(1, 4066, 1, 30), 0);
            same("members of another set are new", Made.with(0, 1, 2).insertRange(0, 0, 1, 3), 3);
        });
    }

    private void insertAll() {
        says(4, "Puts the members of another set in, one after the other, in rising order.", () -> {
            SmallNumberSets x = Made.with(9, 3, 5);
            x.insertAll(0, 1);
            same("members", Picture.members(x, 0), "3 5 9");
            same("the other stays", Picture.of(x, 1), Picture.of(Made.with(3, 5, 9), 1));
            SmallNumberSets thirty = Made.by(y -> y.insertRange(1, 4066, 1, 30));
            thirty.insertAll(2, 1);
            same("each splits before the next", Picture.buckets(thirty, 2),
                    "0:4 4070:4 4074:4 4078:4 4082:4 4086:4 4090:6");
            SmallNumberSets none = Made.with(3);
            none.insertAll(1, 0);
            same("of an empty set", Picture.members(none, 1), "3");
            SmallNumberSets ends = Made.with(0, 4095);
            ends.insertAll(2, 1);
            same("0 and 4095", Picture.members(ends, 2), "0 4095");
            // the buckets of the other set do not come along, only its members
            SmallNumberSets shape = Made.without(Made.twoBuckets(), 10, 90);
            shape.insertAll(0, 1);
            same("its buckets", Picture.buckets(shape, 0), "0:7");
        });

        says(4, "Returns how many of them were not members before.", () -> {
            same("all of them new", Made.with(3, 5, 9).insertAll(0, 1), 3);
            SmallNumberSets some = Made.with(3, 5, 9);
            some.insert(0, 5);
            same("some new", some.insertAll(0, 1), 2);
            same("none new", some.insertAll(0, 1), 0);
            same("of an empty set", Made.with(3).insertAll(1, 0), 0);
            same("thirty", Made.by(y -> y.insertRange(1, 0, 1, 30)).insertAll(0, 1), 30);
            SmallNumberSets full = Made.full();
            full.insertRange(0, 4066, 1, 30);
            same("into a full set", full.insertAll(1, 0), 0);
        });
    }

    private void insertAllOfItself() {
        says(4, "(If both sets are the same, nothing changes; with more than 30 members it is an exception "
                + "all the same.)", () -> {
            for (int set = 0; set <= 2; set++) {
                int chosen = set;
                Made.Calls thirty = x -> x.insertRange(chosen, 100, 7, 30);
                SmallNumberSets x = Made.by(thirty);
                same("thirty members of " + set, x.insertAll(set, set), 0);
                same("nothing changes in " + set, Picture.of(x, set), Picture.of(Made.by(thirty), set));
                SmallNumberSets y = Made.by(thirty);
                y.insert(set, 0);
                check.refuses("31 members of " + set, IllegalStateException.class, () -> y.insertAll(chosen, chosen));
                same("none of " + set, Made.empty().insertAll(set, set), 0);
            }
            check.refuses("a full set", IllegalStateException.class, () -> Made.full().insertAll(1, 1));
        });
    }

    private void delete() {
        says(5, "Takes a number out.", () -> {
            for (int number : new int[] {0, 1, 63, 64, 2048, 4094, 4095}) {
                SmallNumberSets x = Made.without(Made.with(number, 77), number);
                same("left " + number, Picture.of(x, 1), Picture.of(Made.with(77), 1));
                same("the last member " + number, Picture.of(Made.without(Made.with(number), number), 1),
                        Picture.of(Made.empty(), 1));
            }
            SmallNumberSets full = Made.without(Made.full(), 4095, 0);
            same("of a full set", full.size(1), 4094);
            same("of a full set, first", full.select(1, 0), 1);
            same("of a full set, last", full.select(1, 4093), 4094);
            SmallNumberSets twin = Made.by(y -> {
                y.insert(0, 5);
                y.insert(1, 5);
                y.delete(0, 5);
            });
            same("not of another set", twin.contains(1, 5), true);
        });

        says(5, "Returns true if it was a member.", () -> {
            SmallNumberSets x = Made.with(5);
            same("no member", x.delete(1, 4), false);
            same("of another set", x.delete(0, 5), false);
            same("a member", x.delete(1, 5), true);
            same("no more", x.delete(1, 5), false);
            same("of an empty set", Made.empty().delete(1, 0), false);
            same("0", Made.with(0).delete(1, 0), true);
            same("4095", Made.with(4095).delete(1, 4095), true);
            same("no member changes nothing", Picture.of(Made.without(Made.with(5), 4, 6), 1),
                    Picture.of(Made.with(5), 1));
        });
    }

    private void pollFirst() {
        says(6, "Takes the least member out.", () -> {
            SmallNumberSets x = Made.with(64, 0, 4095);
            x.pollFirst(1);
            same("the rest", Picture.of(x, 1), Picture.of(Made.with(64, 4095), 1));
            x.pollFirst(1);
            x.pollFirst(1);
            same("the last one too", Picture.of(x, 1), Picture.of(Made.empty(), 1));
        });

        says(6, "Returns that number.", () -> {
            same("0", Made.with(64, 0, 4095).pollFirst(1), 0);
            same("64", Made.with(64, 65, 4095).pollFirst(1), 64);
            same("the only one", Made.with(4095).pollFirst(1), 4095);
            same("of a full set", Made.full().pollFirst(1), 0);
        });
    }

    private void pollLast() {
        says(7, "Takes the greatest member out.", () -> {
            SmallNumberSets x = Made.with(64, 0, 4095);
            x.pollLast(1);
            same("the rest", Picture.of(x, 1), Picture.of(Made.with(0, 64), 1));
            x.pollLast(1);
            x.pollLast(1);
            same("the last one too", Picture.of(x, 1), Picture.of(Made.empty(), 1));
        });

        says(7, "Returns that number.", () -> {
            same("4095", Made.with(64, 0, 4095).pollLast(1), 4095);
            same("65", Made.with(0, 65, 64).pollLast(1), 65);
            same("the only one", Made.with(0).pollLast(1), 0);
            same("of a full set", Made.full().pollLast(1), 4095);
        });
    }

    private void clear() {
        says(8, "Empties a set; it has one empty bucket then.", () -> {
            SmallNumberSets x = Made.threeBuckets();
            x.insert(0, 5);
            x.clear(1);
            same("emptied", Picture.of(x, 1), Picture.of(Made.empty(), 1));
            same("another stays", Picture.members(x, 0), "5");
            SmallNumberSets full = Made.full();
            full.clear(1);
            same("a full set", Picture.of(full, 1), Picture.of(Made.empty(), 1));
            same("no match", full.longestMatch(1, 0), NONE);
            same("no bucket behind", full.bucketOf(1, 4095), 0);
            SmallNumberSets empty = Made.empty();
            empty.clear(1);
            same("an empty set", Picture.buckets(empty, 1), "0:0");
            SmallNumberSets again = Made.threeBuckets();
            again.clear(1);
            again.insertRange(1, 10, 10, 9);
            same("filled again", Picture.of(again, 1), Picture.of(Made.twoBuckets(), 1));
        });

        says(8, "Returns how many members it had.", () -> {
            same("of an empty set", Made.empty().clear(1), 0);
            same("one", Made.with(0).clear(1), 1);
            SmallNumberSets full = Made.full();
            same("of a full set", full.clear(1), 4096);
            same("the second time", full.clear(1), 0);
        });
    }

    private void size() {
        says(9, "Returns how many members a set has.", () -> {
            same("after an insert of a member", Made.with(3, 3).size(1), 1);
            same("after a delete of no member", Made.without(Made.with(3), 4).size(1), 1);
            same("of another set", Made.with(3).size(0), 0);
        });

        says(9, "Returns how many.", () -> {
            same("empty", Made.empty().size(1), 0);
            same("one", Made.with(0).size(1), 1);
            same("two", Made.with(0, 4095).size(1), 2);
            same("full", Made.full().size(1), 4096);
            same("all but one", Made.without(Made.full(), 4095).size(1), 4095);
        });
    }

    private void contains() {
        says(10, "Tells whether a number is a member.", () -> {
            SmallNumberSets x = Made.with(0, 64, 4095);
            int[] no = {1, 63, 65, 128, 4031, 4094};
            for (int number : no) {
                same("no member " + number, x.contains(1, number), false);
            }
            same("of another set", x.contains(0, 0), false);
            same("of an empty set", Made.empty().contains(1, 0), false);
            same("taken out", Made.without(Made.with(5), 5).contains(1, 5), false);
        });

        says(10, "Returns true if so.", () -> {
            SmallNumberSets x = Made.with(0, 64, 4095);
            for (int number : new int[] {0, 64, 4095}) {
                same("member " + number, x.contains(1, number), true);
            }
            same("of a full set", Made.full().contains(1, 4095), true);
        });
    }

    // ---- neighbours

    private void successor() {
        says(11, "Returns the least member that is greater than a number.", () -> {
            SmallNumberSets x = Made.with(10, 63, 64, 4095);
            int[][] rows = {{0, 10}, {9, 10}, {10, 63}, {11, 63}, {62, 63}, {63, 64}, {64, 4095}, {4094, 4095}};
            for (int[] row : rows) {
                same("of " + row[0], x.successor(1, row[0]), row[1]);
            }
            same("0 in a full set", Made.full().successor(1, 0), 1);
            same("4094 in a full set", Made.full().successor(1, 4094), 4095);
        });

        says(11, "Returns the member; NONE if there is none.", () -> {
            same("the greatest", Made.with(10, 20).successor(1, 20), NONE);
            same("above the greatest", Made.with(10, 20).successor(1, 21), NONE);
            same("4095 in a full set", Made.full().successor(1, 4095), NONE);
            same("of an empty set", Made.empty().successor(1, 0), NONE);
            same("not round to 0", Made.with(0).successor(1, 4095), NONE);
            same("not of another set", Made.with(20).successor(0, 10), NONE);
        });
    }

    private void predecessor() {
        says(12, "Returns the greatest member that is less than a number.", () -> {
            SmallNumberSets x = Made.with(0, 63, 64, 4000);
            int[][] rows = {{1, 0}, {62, 0}, {63, 0}, {64, 63}, {65, 64}, {4000, 64}, {4001, 4000}, {4095, 4000}};
            for (int[] row : rows) {
                same("of " + row[0], x.predecessor(1, row[0]), row[1]);
            }
            same("the least of its cluster", Made.with(0, 70, 130).predecessor(1, 130), 70);
            same("1 in a full set", Made.full().predecessor(1, 1), 0);
            same("4095 in a full set", Made.full().predecessor(1, 4095), 4094);
        });

        says(12, "Returns the member; NONE if there is none.", () -> {
            same("the least", Made.with(10, 20).predecessor(1, 10), NONE);
            same("below the least", Made.with(10, 20).predecessor(1, 9), NONE);
            same("0 in a full set", Made.full().predecessor(1, 0), NONE);
            same("of an empty set", Made.empty().predecessor(1, 4095), NONE);
            same("not round to 4095", Made.with(4095).predecessor(1, 0), NONE);
            same("not of another set", Made.with(5).predecessor(0, 10), NONE);
        });
    }

    private void rank() {
        says(13, "Returns how many members are less than a number.", () -> {
            SmallNumberSets x = Made.with(0, 63, 64, 4095);
            int[][] rows = {{0, 0}, {1, 1}, {62, 1}, {63, 1}, {64, 2}, {65, 3}, {4094, 3}, {4095, 3}};
            for (int[] row : rows) {
                same("of " + row[0], x.rank(1, row[0]), row[1]);
            }
        });

        says(13, "Returns how many.", () -> {
            same("of an empty set", Made.empty().rank(1, 4095), 0);
            same("0 in a full set", Made.full().rank(1, 0), 0);
            same("4095 in a full set", Made.full().rank(1, 4095), 4095);
            same("not of another set", Made.with(5).rank(0, 10), 0);
        });
    }

    private void select() {
        says(14, "Returns a member by its place in rising order.", () -> {
            same("in rising order", Picture.members(Made.with(4095, 0, 64, 63), 1), "0 63 64 4095");
            same("over the buckets", Picture.members(Made.threeBuckets(), 1), "1 2 3 4 5 10 20 30 40 50 60 70 80 90");
        });

        says(14, "`place`: 0 for the least one", () -> {
            same("0", Made.with(4095, 7).select(1, 0), 7);
            same("1", Made.with(4095, 7).select(1, 1), 4095);
            check.refuses("2", IndexOutOfBoundsException.class, () -> Made.with(4095, 7).select(1, 2));
            check.refuses("-1", IndexOutOfBoundsException.class, () -> Made.with(4095, 7).select(1, -1));
        });

        says(14, "Returns the member.", () -> {
            same("the only one", Made.with(0).select(1, 0), 0);
            same("the first of a full set", Made.full().select(1, 0), 0);
            same("the last of a full set", Made.full().select(1, 4095), 4095);
        });
    }

    // ---- trees

    private void steps() {
        says(15, "Returns how many trees the search for the least member greater than a number goes through: "
                + "the tree of the set, and each cluster and each summary in which it goes on.", () -> {
            SmallNumberSets x = Made.with(0, 70, 75, 200, 300, 4095);
            int[][] rows = {{0, 2}, {1, 2}, {63, 2}, {64, 2}, {69, 2}, {70, 3}, {74, 3}, {75, 3}, {76, 3}, {128, 3},
                {192, 2}, {199, 2}, {200, 3}, {299, 2}, {300, 3}, {320, 3}, {4031, 3}, {4032, 2}, {4094, 2}, {4095, 1}};
            for (int[] row : rows) {
                same("of " + row[0], x.steps(1, row[0]), row[1]);
            }
        });

        says(15, "Returns 1 to 3.", () -> {
            same("empty, 0", Made.empty().steps(1, 0), 1);
            same("empty, 4095", Made.empty().steps(1, 4095), 1);
            SmallNumberSets first = Made.full();
            same("full, 0", first.steps(1, 0), 2);
            for (int number = 1; number < 300; number++) {
                same("full, " + number, first.steps(1, number), 3);
            }
            SmallNumberSets last = Made.full();
            for (int number = 3800; number < 4095; number++) {
                same("full, " + number, last.steps(1, number), 3);
            }
            same("full, 4095", last.steps(1, 4095), 1);
        });
    }

    private void trees() {
        says(16, "Returns how many trees of a set are not empty: of the tree of the set, its clusters and its "
                + "summary, and the clusters and summaries of these.", () -> {
            same("two", Made.with(0, 4095).trees(1), 1 + 1 + 1);
            same("a cluster with a part", Made.with(0, 64, 65).trees(1), 1 + 3 + 1);
            same("a cluster with two parts", Made.with(0, 64, 65, 127).trees(1), 1 + 4 + 1);
            same("a summary with a part", Made.with(0, 64, 128).trees(1), 1 + 2 + 3);
            same("a summary with two parts", Made.with(0, 64, 128, 4095).trees(1), 1 + 3 + 4);
        });

        says(16, "Returns how many; 0 if the set is empty.", () -> {
            same("empty", Made.empty().trees(1), 0);
            same("another set has members", Made.with(5).trees(0), 0);
            same("emptied", Made.without(Made.with(0, 64), 64, 0).trees(1), 0);
            same("one member", Made.with(0).trees(1), 1);
            same("full", Made.full().trees(1), 1 + 65 * 10);
        });
    }

    private void clusterMinimum() {
        says(17, "Returns the least number that a cluster of the tree of a set holds.", () -> {
            SmallNumberSets x = Made.with(70, 65, 90, 4095);
            same("not the least of the set", x.clusterMinimum(1, 1), 6);
            x.insert(1, 64);
            same("the former least", x.clusterMinimum(1, 1), 1);
            x.delete(1, 65);
            same("taken out", x.clusterMinimum(1, 1), 6);
        });

        says(17, "`cluster`: 0 to 63", () -> {
            same("0", Made.with(0, 5).clusterMinimum(1, 0), 5);
            same("63", Made.with(0, 4093, 4094).clusterMinimum(1, 63), 61);
            for (int cluster : new int[] {-1, 64}) {
                check.refuses("" + cluster, IndexOutOfBoundsException.class,
                        () -> Made.with(0, 5, 4095).clusterMinimum(1, cluster));
            }
        });

        says(17, "Returns 0 to 63; NONE if the cluster is empty.", () -> {
            same("0", Made.with(0, 128).clusterMinimum(1, 2), 0);
            same("63", Made.with(0, 191).clusterMinimum(1, 2), 63);
            same("empty", Made.with(0, 191).clusterMinimum(1, 1), NONE);
            same("the only member is in none", Made.with(64).clusterMinimum(1, 1), NONE);
            same("emptied", Made.without(Made.with(0, 191), 191).clusterMinimum(1, 2), NONE);
            same("of an empty set", Made.empty().clusterMinimum(1, 0), NONE);
        });
    }

    private void clusterMaximum() {
        says(18, "Returns the greatest number that a cluster of the tree of a set holds.", () -> {
            SmallNumberSets x = Made.with(65, 70, 90, 4095);
            same("the greatest", x.clusterMaximum(1, 1), 26);
            x.delete(1, 90);
            same("taken out", x.clusterMaximum(1, 1), 6);
            same("not the least of the set", Made.with(65, 200).clusterMaximum(1, 1), NONE);
            same("the former least", Made.with(65, 64).clusterMaximum(1, 1), 1);
        });

        says(18, "`cluster`: 0 to 63", () -> {
            same("0", Made.with(0, 4, 5).clusterMaximum(1, 0), 5);
            same("63", Made.with(0, 4093, 4094).clusterMaximum(1, 63), 62);
            for (int cluster : new int[] {-1, 64}) {
                check.refuses("" + cluster, IndexOutOfBoundsException.class,
                        () -> Made.with(0, 5, 4095).clusterMaximum(1, cluster));
            }
        });

        says(18, "Returns 0 to 63; NONE if the cluster is empty.", () -> {
            same("0", Made.with(0, 128).clusterMaximum(1, 2), 0);
            same("63", Made.with(0, 128, 191).clusterMaximum(1, 2), 63);
            same("empty", Made.with(0, 191).clusterMaximum(1, 1), NONE);
            same("the only member is in none", Made.with(64).clusterMaximum(1, 1), NONE);
            same("emptied", Made.without(Made.with(0, 191), 191).clusterMaximum(1, 2), NONE);
            same("of an empty set", Made.empty().clusterMaximum(1, 63), NONE);
        });
    }

    // ---- tries

    private void prefixes() {
        says(19, "Returns how many prefixes a level of the trie of a set has.", () -> {
            int[] due = {1, 2, 3, 3, 3, 3, 3, 3, 3, 3, 3, 4, 5};
            SmallNumberSets x = Made.with(0, 1, 2, 4095, 2048);
            for (int level = 0; level <= 12; level++) {
                same("level " + level, x.prefixes(1, level), due[level]);
            }
        });

        says(19, "`level`: 0 to 12", () -> {
            same("0", Made.with(0, 4095).prefixes(1, 0), 1);
            same("12", Made.with(0, 4095).prefixes(1, 12), 2);
            for (int level : new int[] {-1, 13}) {
                check.refuses("" + level, IndexOutOfBoundsException.class, () -> Made.with(0, 4095).prefixes(1, level));
            }
        });

        says(19, "Returns how many.", () -> {
            same("level 0 of an empty set", Made.empty().prefixes(1, 0), 0);
            same("level 12 of an empty set", Made.empty().prefixes(1, 12), 0);
            same("level 0 of a full set", Made.full().prefixes(1, 0), 1);
            same("level 12 of a full set", Made.full().prefixes(1, 12), 4096);
            same("of another set", Made.with(5).prefixes(0, 0), 0);
        });
    }

    private void longestMatch() {
        says(20, "Returns the longest match of a number with a set.", () -> {
            SmallNumberSets x = Made.with(0, 2048, 2050);
            int[][] rows = {{0, 12}, {1, 11}, {2047, 1}, {2048, 12}, {2049, 11}, {2051, 11}, {2052, 9}, {4095, 1}};
            for (int[] row : rows) {
                same("of " + row[0], x.longestMatch(1, row[0]), row[1]);
            }
        });

        says(20, "Returns 0 to 12; NONE if the set is empty.", () -> {
            same("0", Made.with(0).longestMatch(1, 2048), 0);
            same("12", Made.with(4095).longestMatch(1, 4095), 12);
            same("of a full set", Made.full().longestMatch(1, 4095), 12);
            same("empty", Made.empty().longestMatch(1, 0), NONE);
            same("emptied", Made.without(Made.with(0), 0).longestMatch(1, 0), NONE);
            same("another set has members", Made.with(5).longestMatch(0, 5), NONE);
        });
    }

    private void probes() {
        says(21, "Returns how many levels the search for the longest match probes.", () -> {
            // 6 3 1; 6 3 1 2; 6 3 4; 6 3 4 5; 6 9 7; 6 9 11 12
            int[][] rows = {{2048, 3}, {1024, 4}, {512, 4}, {256, 3}, {128, 4}, {64, 4}, {32, 3}, {16, 4}, {0, 4}};
            SmallNumberSets x = Made.with(0);
            for (int[] row : rows) {
                same("of " + row[0], x.probes(1, row[0]), row[1]);
            }
        });

        says(21, "Returns how many; 0 if the set is empty.", () -> {
            same("empty, 0", Made.empty().probes(1, 0), 0);
            same("empty, 4095", Made.empty().probes(1, 4095), 0);
            same("emptied", Made.without(Made.with(0), 0).probes(1, 0), 0);
            same("another set has members", Made.with(5).probes(0, 5), 0);
            same("a match of 0", Made.with(0).probes(1, 4095), 3);
            same("a match of 12", Made.with(4095).probes(1, 4095), 4);
            same("of a full set", Made.full().probes(1, 0), 4);
        });
    }

    // ---- buckets

    private void buckets() {
        says(22, "Returns how many buckets a set has.", () -> {
            same("8 members", Made.by(x -> x.insertRange(1, 10, 10, 8)).buckets(1), 1);
            same("9 members", Made.twoBuckets().buckets(1), 2);
            same("three", Made.threeBuckets().buckets(1), 3);
            same("merged", Made.without(Made.twoBuckets(), 10, 20, 30).buckets(1), 1);
        });

        says(22, "Returns 1 or more.", () -> {
            same("empty", Made.empty().buckets(1), 1);
            same("emptied", Made.without(Made.with(3), 3).buckets(1), 1);
            same("another set has two", Made.twoBuckets().buckets(0), 1);
            same("full", Made.full().buckets(1), 1023);
        });
    }

    private void separator() {
        says(23, "Returns the separator of a bucket.", () -> {
            same("second", Made.threeBuckets().separator(1, 1), 5);
            same("third", Made.threeBuckets().separator(1, 2), 50);
            same("its number taken out", Made.without(Made.threeBuckets(), 50).separator(1, 2), 50);
        });

        says(23, "`bucket`: 0 for the first one", () -> {
            same("0", Made.threeBuckets().separator(1, 0), 0);
            for (int bucket : new int[] {-1, 3}) {
                check.refuses("" + bucket, IndexOutOfBoundsException.class,
                        () -> Made.threeBuckets().separator(1, bucket));
            }
        });

        says(23, "Returns its separator.", () -> {
            same("empty", Made.empty().separator(1, 0), 0);
            same("the first bucket without 0", Made.with(4095).separator(1, 0), 0);
            same("the last of a full set", Made.full().separator(1, 1022), 4088);
        });
    }

    private void bucketSize() {
        says(24, "Returns how many members a bucket has.", () -> {
            same("second", Made.twoBuckets().bucketSize(1, 1), 5);
            same("its separator's number taken out", Made.without(Made.twoBuckets(), 50).bucketSize(1, 1), 4);
        });

        says(24, "`bucket`: 0 for the first one", () -> {
            same("0", Made.twoBuckets().bucketSize(1, 0), 4);
            for (int bucket : new int[] {-1, 2}) {
                check.refuses("" + bucket, IndexOutOfBoundsException.class,
                        () -> Made.twoBuckets().bucketSize(1, bucket));
            }
        });

        says(24, "Returns 0 to 8.", () -> {
            same("empty", Made.empty().bucketSize(1, 0), 0);
            same("emptied", Made.without(Made.with(3), 3).bucketSize(1, 0), 0);
            same("one member", Made.with(0).bucketSize(1, 0), 1);
            same("eight", Made.by(x -> x.insertRange(1, 10, 10, 8)).bucketSize(1, 0), 8);
            same("nine are too many", Made.twoBuckets().bucketSize(1, 0), 4);
            same("0 and 4095", Made.with(0, 4095).bucketSize(1, 0), 2);
            same("the last of a full set", Made.full().bucketSize(1, 1022), 8);
        });
    }

    private void bucketOf() {
        says(25, "Returns the bucket to which a number belongs.", () -> {
            SmallNumberSets x = Made.twoBuckets();
            int[][] rows = {{0, 0}, {10, 0}, {49, 0}, {50, 1}, {51, 1}, {90, 1}, {4095, 1}};
            for (int[] row : rows) {
                same("of " + row[0], x.bucketOf(1, row[0]), row[1]);
            }
        });

        says(25, "Returns the bucket.", () -> {
            same("empty, 0", Made.empty().bucketOf(1, 0), 0);
            same("empty, 4095", Made.empty().bucketOf(1, 4095), 0);
            same("another set has two", Made.twoBuckets().bucketOf(0, 4095), 0);
            same("the last of a full set", Made.full().bucketOf(1, 4095), 1022);
        });
    }
}
