import java.util.NoSuchElementException;

/** The calls that throw: when, with which exception, and that they change nothing. */
final class RefusalSentences {
    private static final Class<IndexOutOfBoundsException> NO_PLACE = IndexOutOfBoundsException.class;
    private static final Class<IllegalArgumentException> BAD = IllegalArgumentException.class;
    private static final Class<IllegalStateException> TOO_MANY = IllegalStateException.class;
    private static final Class<NoSuchElementException> NO_MEMBER = NoSuchElementException.class;
    private static final int MIN = Integer.MIN_VALUE;
    private static final int MAX = Integer.MAX_VALUE;
    // many of these come back into the range when they are multiplied, masked or cast to a smaller type
    private static final int[] WRONG_SETS = {-1, 3, 4, -2, -3, 256, 65536, 1 << 20, 1 << 26, 1 << 30, MIN, MIN + 1,
        MAX};
    private static final int[] WRONG_NUMBERS = {-1, 4096, 4097, 8191, 8192, -4096, -4095, 65536, 1 << 20, 1 << 26,
        1 << 30, MIN, MIN + 1, MAX};
    private static final Made.Calls EMPTY = x -> { };
    /** 30 members, 4 members, 32 members. */
    private static final Made.Calls SOME = x -> {
        x.insertRange(0, 0, 137, 30);
        x.insertRange(1, 0, 63, 2);
        x.insert(1, 64);
        x.insert(1, 4095);
        x.insertRange(2, 100, 7, 30);
        x.insertRange(2, 4000, 95, 2);
    };

    private final Check check;
    private final Document document;

    RefusalSentences(Check check, Document document) {
        this.check = check;
        this.document = document;
    }

    void run() {
        for (FaceCall call : FaceCall.ALL) {
            document.says(call.promise, call.throwsNoSuch(), () -> noSuchSet(call));
            if (call.kind == FaceCall.Kind.NUMBER) {
                document.says(call.promise, "Throws `IllegalArgumentException` if number is out of range",
                        () -> badNumber(call));
            }
        }
        document.says("Promise 3", "Throws `IllegalArgumentException` if from, step or count is out of range, "
                + "or the last number is greater than 4095", this::badRange);
        document.says("Promise 4", "Throws `IllegalStateException` if other has more than 30 members",
                this::tooManyMembers);
        document.says("Promise 6", "Throws `NoSuchElementException` if the set is empty",
                () -> noMember("pollFirst", SmallNumberSets::pollFirst));
        document.says("Promise 7", "Throws `NoSuchElementException` if the set is empty",
                () -> noMember("pollLast", SmallNumberSets::pollLast));
        document.says("Terms", "IndexOutOfBoundsException: there is no such set, cluster, level, place or bucket.",
                this::noSuchThing);
        document.says("Terms", "IllegalArgumentException: a number or another argument is out of its range.",
                this::badThing);
        document.says("Terms", "IllegalStateException and NoSuchElementException: as the methods tell.",
                this::asTheMethodsTell);
        document.says("Terms", "If several apply, the one that the throws clause names first is thrown.",
                this::severalApply);
        document.says("Terms", "A call that throws changes nothing.", this::nothingChanges);
    }

    /** The call throws this exception, and what is seen of the three sets stays as it was. */
    private void refused(String what, Made.Calls start, Class<? extends RuntimeException> due, Made.Calls call) {
        for (int set = 0; set <= 2; set++) {
            SmallNumberSets x = Made.by(start);
            check.refuses(what, due, () -> call.on(x));
            check.same(what + " threw and changed set " + set, Picture.of(x, set), Picture.of(Made.by(start), set));
        }
    }

    private void refusedEverywhere(String what, Class<? extends RuntimeException> due, Made.Calls call) {
        refused(what + " (empty)", EMPTY, due, call);
        refused(what + " (some)", SOME, due, call);
    }

    // ---- the lines 'Throws'

    private void noSuchSet(FaceCall call) {
        for (int set : WRONG_SETS) {
            refusedEverywhere(call.name + " set " + set, NO_PLACE, x -> call.body.on(x, set, 0));
        }
        if (call.kind == FaceCall.Kind.OTHER) {
            for (int other : WRONG_SETS) {
                refusedEverywhere(call.name + " other " + other, NO_PLACE, x -> call.body.on(x, 1, other));
            }
        }
        if (call.kind == FaceCall.Kind.PLACE) {
            noSuchPlace(call, "empty", EMPTY);
            noSuchPlace(call, "some", SOME);
        }
    }

    private void noSuchPlace(FaceCall call, String state, Made.Calls start) {
        for (int set = 0; set <= 2; set++) {
            int chosen = set;
            int end = call.endOfPlaces(Made.by(start), set);
            if (end > 0) {
                check.same(call.name + " last place of " + set,
                        call.answer(Made.by(start), set, end - 1).endsWith("Exception"), false);
            }
            for (int place : new int[] {-1, end, end + 1, -64, 64 + end, 65536, 1 << 20, 1 << 26, 1 << 30, MIN, MAX}) {
                refused(call.name + " " + state + " place " + place, start, NO_PLACE,
                        x -> call.body.on(x, chosen, place));
            }
        }
    }

    private void badNumber(FaceCall call) {
        for (int number : WRONG_NUMBERS) {
            for (int set = 0; set <= 2; set++) {
                int chosen = set;
                refusedEverywhere(call.name + " number " + number, BAD, x -> call.body.on(x, chosen, number));
            }
        }
    }

    private void badRange() {
        for (int from : WRONG_NUMBERS) {
            badRange(from, 1, 1);
        }
        for (int step : new int[] {0, -1, 1001, 65537, 1 << 20, 1 << 30, MIN, MAX}) {
            badRange(0, step, 1);
            badRange(30, step, 2);
        }
        for (int count : new int[] {0, -1, 31, 32, 256, 65537, 1 << 20, 1 << 30, MIN, MAX}) {
            badRange(0, 1, count);
            badRange(4095, 1000, count);
        }
        // the last number alone is too great
        badRange(4095, 1, 2);
        badRange(4067, 1, 30);
        badRange(96, 1000, 5);
        badRange(36, 140, 30);
        badRange(4095, 1000, 30);
        // the last number alone is in range
        badRange(-1, 1, 2);
        badRange(-29, 1, 30);
        badRange(4096, -1, 2);
        badRange(30, -1, 30);
        badRange(0, 0, 30);
        badRange(0, 1, 4096);
        // the last number comes back into the range when the product wraps around
        badRange(5, 1 << 30, 5);
        badRange(5, 1 << 31, 3);
        badRange(7, MAX, 3);
        badRange(0, 4, (1 << 30) + 1);
        badRange(0, 1000, 1 + (1 << 29));
        badRange(MAX, 1000, 30);
        badRange(MIN, MIN, 2);
    }

    private void badRange(int from, int step, int count) {
        refusedEverywhere("insertRange " + from + " " + step + " " + count, BAD,
                x -> x.insertRange(1, from, step, count));
    }

    private void tooManyMembers() {
        for (int other = 0; other <= 2; other++) {
            for (int set = 0; set <= 2; set++) {
                int from = other;
                int into = set;
                Made.Calls thirty = x -> x.insertRange(from, 0, 137, 30);
                Made.Calls more = x -> {
                    x.insertRange(from, 0, 137, 30);
                    x.insert(from, 4095);
                };
                check.same("insertAll of 30", Made.by(thirty).insertAll(into, from), into == from ? 0 : 30);
                refused("insertAll of 31", more, TOO_MANY, x -> x.insertAll(into, from));
            }
        }
        refused("insertAll of 32", SOME, TOO_MANY, x -> x.insertAll(0, 2));
        refused("insertAll of 32 itself", SOME, TOO_MANY, x -> x.insertAll(2, 2));
        check.same("into 32", Made.by(SOME).insertAll(2, 1), 3);
        check.refuses("insertAll of 4096", TOO_MANY, () -> Made.full().insertAll(0, 1));
        SmallNumberSets x = Made.by(SOME);
        x.pollFirst(2);
        x.pollFirst(2);
        check.same("of 30 again", x.insertAll(1, 2), 29);
    }

    private void noMember(String name, FaceCall.SetBody call) {
        for (int set = 0; set <= 2; set++) {
            int chosen = set;
            refused(name + " of a new object", EMPTY, NO_MEMBER, x -> call.on(x, chosen));
            refused(name + " with members in the others", x -> {
                SOME.on(x);
                x.clear(chosen);
            }, NO_MEMBER, x -> call.on(x, chosen));
            refused(name + " of an emptied set", x -> {
                x.insert(chosen, 0);
                x.delete(chosen, 0);
            }, NO_MEMBER, x -> call.on(x, chosen));
            SmallNumberSets last = new SmallNumberSets();
            last.insert(set, 4095);
            check.same(name + " of one member", call.on(last, set), 4095);
            check.refuses(name + " once more", NO_MEMBER, () -> call.on(last, chosen));
        }
    }

    // ---- the exceptions in 'Terms'

    private void noSuchThing() {
        for (int end : new int[] {-1, 3}) {
            refused("set " + end, SOME, NO_PLACE, x -> x.size(end));
        }
        for (int end : new int[] {-1, 64}) {
            refused("cluster " + end, SOME, NO_PLACE, x -> x.clusterMinimum(1, end));
            refused("cluster " + end, SOME, NO_PLACE, x -> x.clusterMaximum(1, end));
        }
        for (int end : new int[] {-1, 13}) {
            refused("level " + end, SOME, NO_PLACE, x -> x.prefixes(1, end));
        }
        for (int end : new int[] {-1, 4}) {
            refused("place " + end, SOME, NO_PLACE, x -> x.select(1, end));
        }
        refused("place 0 of an empty set", EMPTY, NO_PLACE, x -> x.select(1, 0));
        for (int end : new int[] {-1, 1}) {
            refused("bucket " + end, SOME, NO_PLACE, x -> x.separator(1, end));
            refused("bucket " + end, SOME, NO_PLACE, x -> x.bucketSize(1, end));
        }
        check.refuses("place 4096 of a full set", NO_PLACE, () -> Made.full().select(1, 4096));
        check.refuses("bucket 1023 of a full set", NO_PLACE, () -> Made.full().separator(1, 1023));
        check.refuses("bucket 1023 of a full set", NO_PLACE, () -> Made.full().bucketSize(1, 1023));
    }

    private void badThing() {
        for (int number : new int[] {-1, 4096}) {
            for (FaceCall call : FaceCall.ALL) {
                if (call.kind == FaceCall.Kind.NUMBER || call.kind == FaceCall.Kind.FROM) {
                    refused(call.name + " " + number, SOME, BAD, x -> call.body.on(x, 1, number));
                }
            }
        }
        refused("from -1 alone", SOME, BAD, x -> x.insertRange(1, -1, 1, 2));
        refused("step 0", SOME, BAD, x -> x.insertRange(1, 5, 0, 2));
        refused("step 1001", SOME, BAD, x -> x.insertRange(1, 5, 1001, 2));
        refused("count 0", SOME, BAD, x -> x.insertRange(1, 5, 1, 0));
        refused("count 31", SOME, BAD, x -> x.insertRange(1, 5, 1, 31));
        refused("last 4096", SOME, BAD, x -> x.insertRange(1, 4000, 96, 2));
    }

    private void asTheMethodsTell() {
        refused("insertAll of 32", SOME, TOO_MANY, x -> x.insertAll(1, 2));
        refused("pollFirst", EMPTY, NO_MEMBER, x -> x.pollFirst(1));
        refused("pollLast", EMPTY, NO_MEMBER, x -> x.pollLast(1));
    }

    private void severalApply() {
        for (int set : new int[] {-1, 3, MIN, MAX}) {
            for (int number : new int[] {-1, 4096, MIN, MAX}) {
                for (FaceCall call : FaceCall.ALL) {
                    refusedEverywhere(call.name + " " + set + " " + number, NO_PLACE,
                            x -> call.body.on(x, set, number));
                }
            }
            refusedEverywhere("from and set", NO_PLACE, x -> x.insertRange(set, -1, 1, 1));
            refusedEverywhere("step and set", NO_PLACE, x -> x.insertRange(set, 0, 0, 1));
            refusedEverywhere("count and set", NO_PLACE, x -> x.insertRange(set, 0, 1, 31));
            refusedEverywhere("last and set", NO_PLACE, x -> x.insertRange(set, 4095, 1, 2));
            refusedEverywhere("all and set", NO_PLACE, x -> x.insertRange(set, -1, 0, 0));
            refused("other too large and set", SOME, NO_PLACE, x -> x.insertAll(set, 2));
            refused("set large, no such other", SOME, NO_PLACE, x -> x.insertAll(2, set));
            refused("empty and no such set", EMPTY, NO_PLACE, x -> x.pollFirst(set));
            refused("empty and no such set", EMPTY, NO_PLACE, x -> x.pollLast(set));
        }
    }

    private void nothingChanges() {
        // the first numbers of the range are in range, and new
        refused("insertRange beyond 4095", SOME, BAD, x -> x.insertRange(1, 3900, 10, 21));
        refused("insertRange of 31", SOME, BAD, x -> x.insertRange(1, 200, 1, 31));
        refused("insertAll of 32", SOME, TOO_MANY, x -> x.insertAll(1, 2));
        refused("insertAll of 32 into an empty set", x -> {
            x.insertRange(2, 100, 7, 30);
            x.insertRange(2, 4000, 95, 2);
        }, TOO_MANY, x -> x.insertAll(0, 2));
        for (FaceCall call : FaceCall.ALL) {
            refused(call.name + " of set 3", SOME, NO_PLACE, x -> call.body.on(x, 3, 0));
            refused(call.name + " of set -1", SOME, NO_PLACE, x -> call.body.on(x, -1, 0));
        }
        goesOnAsIfNot("insert", x -> x.insert(1, 4096), BAD);
        goesOnAsIfNot("delete", x -> x.delete(1, -1), BAD);
        goesOnAsIfNot("insertRange", x -> x.insertRange(1, 4000, 10, 30), BAD);
        goesOnAsIfNot("pollFirst", x -> x.pollFirst(0), NO_MEMBER);
        goesOnAsIfNot("pollLast", x -> x.pollLast(0), NO_MEMBER);
        goesOnAsIfNot("clear", x -> x.clear(3), NO_PLACE);
    }

    /** What comes behind a call that threw answers as if that call had not been. */
    private void goesOnAsIfNot(String what, Made.Calls call, Class<? extends RuntimeException> due) {
        SmallNumberSets x = Made.by(y -> y.insertRange(1, 10, 10, 8));
        check.refuses(what, due, () -> call.on(x));
        check.same(what + ", then the ninth", x.insert(1, 90), true);
        check.same(what + ", then the shape", Picture.of(x, 1), Picture.of(Made.twoBuckets(), 1));
    }
}
