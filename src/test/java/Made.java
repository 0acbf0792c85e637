/** Objects in the states that the tests of the sentences start from. */
final class Made {
    /** Calls on an object, one after the other. */
    interface Calls {
        void on(SmallNumberSets x);
    }

    private Made() {
    }

    static SmallNumberSets by(Calls calls) {
        SmallNumberSets x = new SmallNumberSets();
        calls.on(x);
        return x;
    }

    static SmallNumberSets empty() {
        return new SmallNumberSets();
    }

    /** The numbers, put into the set 1 in this order. */
    static SmallNumberSets with(int... numbers) {
        return by(x -> {
            for (int number : numbers) {
                x.insert(1, number);
            }
        });
    }

    /** 10, 20, .., 90 in the set 1: two buckets, "0:4 50:5". */
    static SmallNumberSets twoBuckets() {
        return by(x -> x.insertRange(1, 10, 10, 9));
    }

    /** 1 to 5 and 10, 20, .., 90 in the set 1: three buckets, "0:4 5:5 50:5". */
    static SmallNumberSets threeBuckets() {
        return by(x -> {
            x.insertRange(1, 10, 10, 9);
            x.insertRange(1, 1, 1, 5);
        });
    }

    /** All the 4096 numbers in the set 1, put in from 0 on, in 137 calls. */
    static SmallNumberSets full() {
        return by(x -> {
            for (int from = 0; from < 4096; from += 30) {
                x.insertRange(1, from, 1, Math.min(30, 4096 - from));
            }
        });
    }

    static SmallNumberSets without(SmallNumberSets x, int... numbers) {
        for (int number : numbers) {
            x.delete(1, number);
        }
        return x;
    }
}
