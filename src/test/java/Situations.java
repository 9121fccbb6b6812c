/** Objects in the situations that the tests start from, and the values that they ask with. */
final class Situations {
    static final int LEAST = Integer.MIN_VALUE;
    static final int MOST = Integer.MAX_VALUE;
    // Five times 858993459 wraps round to -1, and its negative to 1: such a worker
    // could meet a pair that there is.
    static final int[] OFF_SIDE = {-1, 5, 6, 24, 25, -5, 858993459, -858993459, LEAST, MOST};
    static final int[] OFF_PRICE = {-1, 100, -2, 101, 256, 65536, LEAST, MOST};
    // Workers 0 to 4 have the tasks 0 1 2 3 4, and 4 3 2 1 0.
    static final int STRAIGHT = 194;
    static final int REVERSED = 2930;
    // The plan that onePlan leaves: tasks 2 0 4 1 3.
    static final int ONLY = 1358;
    private static final int[] ONLY_TASKS = {2, 0, 4, 1, 3};

    private Situations() { }

    static RankedPairs allAt(int price) {
        RankedPairs x = new RankedPairs();
        for (int worker = 0; worker < 5; worker++) {
            for (int task = 0; task < 5; task++) {
                x.price(worker, task, price);
            }
        }
        return x;
    }

    /** Worker 2 may have no task. */
    static RankedPairs withoutPlans() {
        RankedPairs x = new RankedPairs();
        for (int task = 0; task < 5; task++) {
            x.bar(2, task);
        }
        return x;
    }

    /** Only the plan 2 0 4 1 3 is left, priced 1, 2, 4, 8 and 16 from worker 0 on. */
    static RankedPairs onePlan() {
        RankedPairs x = new RankedPairs();
        for (int worker = 0; worker < 5; worker++) {
            for (int task = 0; task < 5; task++) {
                if (ONLY_TASKS[worker] == task) {
                    x.price(worker, task, 1 << worker);
                } else {
                    x.bar(worker, task);
                }
            }
        }
        return x;
    }

    /** Prices from 3 to 99, no two alike, and the pairs (0, 0) and (3, 1) barred. */
    static RankedPairs mixed() {
        RankedPairs x = new RankedPairs();
        for (int worker = 0; worker < 5; worker++) {
            for (int task = 0; task < 5; task++) {
                x.price(worker, task, 3 + 4 * (7 * (5 * worker + task) % 25));
            }
        }
        x.bar(0, 0);
        x.bar(3, 1);
        return x;
    }

    /** Worker 0 takes 50, 40, 30, 20 and 10 for the tasks 0 to 4; all else is free. */
    static RankedPairs stairs() {
        RankedPairs x = new RankedPairs();
        for (int task = 0; task < 5; task++) {
            x.price(0, task, 50 - 10 * task);
        }
        return x;
    }
}
