/** A call of the face with a set and at most one other argument. */
final class FaceCall {
    enum Kind { SET, NUMBER, PLACE, FROM, OTHER }

    interface Body {
        Object on(SmallNumberSets x, int set, int argument);
    }

    interface SetBody {
        Object on(SmallNumberSets x, int set);
    }

    static final FaceCall[] ALL = {
        ofNumber(2, "insert", SmallNumberSets::insert),
        new FaceCall(3, "insertRange", Kind.FROM, (x, set, from) -> x.insertRange(set, from, 1, 1), ""),
        new FaceCall(4, "insertAll", Kind.OTHER, SmallNumberSets::insertAll, ""),
        ofNumber(5, "delete", SmallNumberSets::delete),
        ofSet(6, "pollFirst", SmallNumberSets::pollFirst),
        ofSet(7, "pollLast", SmallNumberSets::pollLast),
        ofSet(8, "clear", SmallNumberSets::clear),
        ofSet(9, "size", SmallNumberSets::size),
        ofNumber(10, "contains", SmallNumberSets::contains),
        ofNumber(11, "successor", SmallNumberSets::successor),
        ofNumber(12, "predecessor", SmallNumberSets::predecessor),
        ofNumber(13, "rank", SmallNumberSets::rank),
        ofPlace(14, "select", SmallNumberSets::select, ", or no member at this place"),
        ofNumber(15, "steps", SmallNumberSets::steps),
        ofSet(16, "trees", SmallNumberSets::trees),
        ofPlace(17, "clusterMinimum", SmallNumberSets::clusterMinimum, " or cluster"),
        ofPlace(18, "clusterMaximum", SmallNumberSets::clusterMaximum, " or cluster"),
        ofPlace(19, "prefixes", SmallNumberSets::prefixes, " or level"),
        ofNumber(20, "longestMatch", SmallNumberSets::longestMatch),
        ofNumber(21, "probes", SmallNumberSets::probes),
        ofSet(22, "buckets", SmallNumberSets::buckets),
        ofPlace(23, "separator", SmallNumberSets::separator, " or bucket"),
        ofPlace(24, "bucketSize", SmallNumberSets::bucketSize, " or bucket"),
        ofNumber(25, "bucketOf", SmallNumberSets::bucketOf),
    };

    final String promise;
    final String name;
    final Kind kind;
    final Body body;
    private final String orNoSuch;

    private FaceCall(int promise, String name, Kind kind, Body body, String orNoSuch) {
        this.promise = "Promise " + promise;
        this.name = name;
        this.kind = kind;
        this.body = body;
        this.orNoSuch = orNoSuch;
    }

    private static FaceCall ofSet(int promise, String name, SetBody body) {
        return new FaceCall(promise, name, Kind.SET, (x, set, argument) -> body.on(x, set), "");
    }

    private static FaceCall ofNumber(int promise, String name, Body body) {
        return new FaceCall(promise, name, Kind.NUMBER, body, "");
    }

    private static FaceCall ofPlace(int promise, String name, Body body, String orNoSuch) {
        return new FaceCall(promise, name, Kind.PLACE, body, orNoSuch);
    }

    String throwsNoSuch() {
        return "Throws `IndexOutOfBoundsException` if there is no such set" + orNoSuch;
    }

    /** The first place behind the last one that the call takes. */
    int endOfPlaces(SmallNumberSets x, int set) {
        switch (name) {
            case "select":
                return x.size(set);
            case "prefixes":
                return 13;
            case "separator":
            case "bucketSize":
                return x.buckets(set);
            default:
                return 64;
        }
    }

    /** What the call answers, or the exception that it throws. */
    String answer(SmallNumberSets x, int set, int argument) {
        try {
            return String.valueOf(body.on(x, set, argument));
        } catch (RuntimeException e) {
            return e.getClass().getSimpleName();
        }
    }
}
