/** What the promises say of the arguments: the first and the last that are taken, and the next ones that are not. */
final class ArgumentSentences {
    private static final Class<IndexOutOfBoundsException> NO_PLACE = IndexOutOfBoundsException.class;
    private static final Class<IllegalArgumentException> BAD = IllegalArgumentException.class;

    /** Three sets that differ, none of them empty. */
    private static final Made.Calls FILLED = x -> {
        for (int set = 0; set <= 2; set++) {
            fill(x, set, set);
        }
    };

    private final Check check;
    private final Document document;

    ArgumentSentences(Check check, Document document) {
        this.check = check;
        this.document = document;
    }

    void run() {
        for (FaceCall call : FaceCall.ALL) {
            document.says(call.promise, "`set`: 0 to 2", () -> setsTaken(call));
            if (call.kind == FaceCall.Kind.NUMBER) {
                document.says(call.promise, numberSentence(call), () -> numbersTaken(call));
            }
        }
        document.says("Promise 3", "`from`: 0 to 4095", this::fromTaken);
        document.says("Promise 3", "`step`: 1 to 1000", this::stepTaken);
        document.says("Promise 3", "`count`: 1 to 30; the last number, from + (count - 1) * step, is at most 4095",
                this::countTaken);
        document.says("Promise 4", "`other`: 0 to 2", this::otherTaken);
        document.says("What it is", "An object is used for at most 512 calls after it has been made; "
                + "what later calls answer is free.", this::lastCall);
    }

    // ---- set

    /** Puts one of three different contents into a set. */
    private static void fill(SmallNumberSets x, int content, int set) {
        if (content == 0) {
            x.insertRange(set, 0, 63, 2);
            x.insert(set, 64);
        } else if (content == 1) {
            x.insertRange(set, 10, 10, 9);
        } else {
            x.insertRange(set, 7, 1, 2);
            x.insertRange(set, 2095, 1000, 3);
        }
    }

    private void setsTaken(FaceCall call) {
        for (int set = 0; set <= 2; set++) {
            for (int argument : argumentsOf(call)) {
                answersForItsSet(call, set, argument);
            }
        }
        for (int set : new int[] {-1, 3}) {
            check.refuses(call.name + " " + set, NO_PLACE, () -> call.body.on(Made.by(FILLED), set, 0));
        }
    }

    private static int[] argumentsOf(FaceCall call) {
        switch (call.kind) {
            case NUMBER:
            case FROM:
                return new int[] {0, 7, 64, 90, 4095};
            case PLACE:
                return new int[] {0, 1};
            default:
                return new int[] {0};
        }
    }

    /** The answer is that of the set alone, and the other two stay as they are. */
    private void answersForItsSet(FaceCall call, int set, int argument) {
        SmallNumberSets alone = new SmallNumberSets();
        fill(alone, set, 0);
        String due = call.answer(alone, 0, argument);
        // of insertAll, the same set is asked for twice: with another one see "`other`: 0 to 2"
        int asked = call.kind == FaceCall.Kind.OTHER ? set : argument;
        for (int seen = 0; seen <= 2; seen++) {
            SmallNumberSets x = Made.by(FILLED);
            String what = call.name + " " + set + " " + asked;
            check.same(what, call.answer(x, set, asked), due);
            SmallNumberSets untouched = new SmallNumberSets();
            fill(untouched, seen, 0);
            String left = Picture.of(seen == set ? alone : untouched, 0);
            check.same(what + " leaves set " + seen, Picture.of(x, seen), left);
        }
    }

    // ---- number

    private static String numberSentence(FaceCall call) {
        boolean memberOrNot = call.name.equals("successor") || call.name.equals("predecessor")
                || call.name.equals("rank") || call.name.equals("bucketOf");
        return "`number`: 0 to 4095" + (memberOrNot ? ", a member or not" : "");
    }

    private void numbersTaken(FaceCall call) {
        for (int number : new int[] {0, 1, 4094, 4095}) {
            taken(call, "empty", Made.empty(), number);
            taken(call, "a member", Made.with(0, 1, 4094, 4095), number);
            taken(call, "not a member", Made.with(2, 4093), number);
            taken(call, "full", Made.full(), number);
        }
        for (int number : new int[] {-1, 4096}) {
            check.refuses(call.name + " empty " + number, BAD, () -> call.body.on(Made.empty(), 1, number));
            check.refuses(call.name + " some " + number, BAD, () -> call.body.on(Made.with(0, 4095), 1, number));
            check.refuses(call.name + " full " + number, BAD, () -> call.body.on(Made.full(), 1, number));
        }
    }

    private void taken(FaceCall call, String state, SmallNumberSets x, int number) {
        check.same(call.name + " " + state + " " + number, call.answer(x, 1, number).endsWith("Exception"), false);
    }

    // ---- from, step, count

    private void range(int from, int step, int count, String due) {
        SmallNumberSets x = new SmallNumberSets();
        String what = "insertRange " + from + " " + step + " " + count;
        check.same(what, x.insertRange(1, from, step, count), count);
        check.same(what + " members", Picture.members(x, 1), due);
    }

    private void noRange(int from, int step, int count) {
        check.refuses("insertRange " + from + " " + step + " " + count, BAD,
                () -> Made.empty().insertRange(1, from, step, count));
    }

    private void fromTaken() {
        range(0, 1, 2, "0 1");
        range(4095, 1, 1, "4095");
        noRange(-1, 1, 1);
        // the second number would be in range
        noRange(-1, 1, 2);
        noRange(4096, 1, 1);
    }

    private void stepTaken() {
        range(0, 1, 3, "0 1 2");
        range(95, 1000, 5, "95 1095 2095 3095 4095");
        range(0, 1000, 1, "0");
        noRange(5, 0, 2);
        noRange(5, -1, 2);
        noRange(0, 1001, 2);
        // where one number comes, the step tells nothing, but its range stands
        noRange(5, 0, 1);
        noRange(5, 1001, 1);
    }

    private void countTaken() {
        range(7, 3, 1, "7");
        range(0, 1, 30, "0 1 2 3 4 5 6 7 8 9 10 11 12 13 14 15 16 17 18 19 20 21 22 23 24 25 26 27 28 29");
        noRange(5, 1, 0);
        noRange(5, 1, -1);
        noRange(0, 1, 31);
        check.same("last 4095", Made.empty().insertRange(1, 4066, 1, 30), 30);
        check.same("last 4095 by a wide step", Made.empty().insertRange(1, 35, 140, 30), 30);
        noRange(4067, 1, 30);
        noRange(36, 140, 30);
        noRange(96, 1000, 5);
        noRange(4095, 1, 2);
        noRange(0, 1000, 30);
    }

    private void otherTaken() {
        for (int set = 0; set <= 2; set++) {
            for (int other = 0; other <= 2; other++) {
                SmallNumberSets x = Made.by(y -> {
                    y.insert(0, 1);
                    y.insertRange(1, 2, 1, 2);
                    y.insertRange(2, 4, 1, 3);
                });
                String what = "insertAll " + set + " " + other;
                check.same(what, x.insertAll(set, other), set == other ? 0 : other + 1);
                check.same(what + " size", x.size(set), set == other ? set + 1 : set + other + 2);
                check.same(what + " last", x.contains(set, new int[] {1, 3, 6}[other]), true);
            }
        }
        for (int other : new int[] {-1, 3}) {
            check.refuses("insertAll 1 " + other, NO_PLACE, () -> Made.with(5).insertAll(1, other));
        }
    }

    // ---- the 512th call

    private void lastCall() {
        for (FaceCall call : FaceCall.ALL) {
            SmallNumberSets used = new SmallNumberSets();
            for (int i = 0; i < 255; i++) {
                used.insertRange(i % 3, i, 100, 30);
                used.clear(i % 3);
            }
            used.insertRange(1, 10, 10, 9);
            int argument = call.kind == FaceCall.Kind.NUMBER || call.kind == FaceCall.Kind.FROM ? 55 : 1;
            check.same(call.name + " as the 512th call", call.answer(used, 1, argument),
                    call.answer(Made.twoBuckets(), 1, argument));
        }
        SmallNumberSets full = Made.full();
        for (int i = 137; i < 511; i++) {
            full.pollFirst(1);
        }
        check.same("the 512th call after a full set", full.pollFirst(1), 511 - 137);
    }
}
