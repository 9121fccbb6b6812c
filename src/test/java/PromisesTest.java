/** Each promise on its own, with answers worked out by hand. */
public final class PromisesTest {
    private static final int LEAST = Integer.MIN_VALUE;
    private static final int MOST = Integer.MAX_VALUE;
    private static final int[] OFF_SIDE = {-1, 5, 6, 24, -5, LEAST, MOST};
    // Workers 0 to 4 have the tasks 0 1 2 3 4, and 4 3 2 1 0.
    private static final int STRAIGHT = 194;
    private static final int REVERSED = 2930;
    private static final Checks checks = new Checks();

    public static void main(String[] args) {
        promise1NewObject();
        promise1ObjectsAreApart();
        promise2Price();
        promise2PriceUnbars();
        promise2Refusals();
        promise3Bar();
        promise3Refusals();
        promise4Plans();
        promise5Cost();
        promise5Edges();
        promise6Plan();
        promise6Edges();
        promise7Task();
        promise7Edges();
        promise8Within();
        promise9Rank();
        promise9Edges();
        promise10CheapestWith();
        promise10Edges();
        checks.end("PromisesTest");
    }

    private static RankedPairs allAt(int price) {
        RankedPairs x = new RankedPairs();
        for (int worker = 0; worker < 5; worker++) {
            for (int task = 0; task < 5; task++) {
                x.price(worker, task, price);
            }
        }
        return x;
    }

    private static RankedPairs withoutPlans() {
        RankedPairs x = new RankedPairs();
        for (int task = 0; task < 5; task++) {
            x.bar(2, task);
        }
        return x;
    }

    /** Only the plan 2 0 4 1 3 is left, priced 1, 2, 4, 8 and 16 from worker 0 on. */
    private static RankedPairs onePlan() {
        int[] tasks = {2, 0, 4, 1, 3};
        RankedPairs x = new RankedPairs();
        for (int worker = 0; worker < 5; worker++) {
            for (int task = 0; task < 5; task++) {
                if (tasks[worker] == task) {
                    x.price(worker, task, 1 << worker);
                } else {
                    x.bar(worker, task);
                }
            }
        }
        return x;
    }

    private static void promise1NewObject() {
        RankedPairs x = new RankedPairs();
        checks.due("1: plans", 120, x.plans());
        checks.due("1: first plan", STRAIGHT, x.plan(0));
        checks.due("1: last plan", REVERSED, x.plan(119));
        checks.due("1: first cost", 0, x.cost(0));
        checks.due("1: last cost", 0, x.cost(119));
        checks.due("1: within(0)", 120, x.within(0));
        for (int worker = 0; worker < 5; worker++) {
            for (int task = 0; task < 5; task++) {
                checks.due("1: cheapestWith", 0, x.cheapestWith(worker, task));
            }
        }
    }

    private static void promise1ObjectsAreApart() {
        RankedPairs before = new RankedPairs();
        RankedPairs changed = new RankedPairs();
        changed.bar(0, 0);
        changed.price(1, 1, 50);
        RankedPairs after = new RankedPairs();
        checks.due("1: older object's plans", 120, before.plans());
        checks.due("1: newer object's plans", 120, after.plans());
        checks.due("1: newer object's within(0)", 120, after.within(0));
        checks.due("1: changed object's plans", 96, changed.plans());
    }

    private static void promise2Price() {
        RankedPairs x = new RankedPairs();
        checks.due("2: price", 0, x.price(1, 3, 7));
        checks.due("2: the pair has it", 7, x.cheapestWith(1, 3));
        checks.due("2: the mirrored pair has not", 0, x.cheapestWith(3, 1));
        checks.due("2: 24 plans have it", 96, x.within(6));
        checks.due("2: price anew", 0, x.price(1, 3, 5));
        checks.due("2: not added up", 5, x.cheapestWith(1, 3));
        checks.due("2: greatest price", 0, x.price(1, 3, 99));
        checks.due("2: greatest price is kept", 99, x.cheapestWith(1, 3));
        checks.due("2: least price", 0, x.price(1, 3, 0));
        checks.due("2: least price is kept", 0, x.cheapestWith(1, 3));
        checks.due("2: corner", 0, x.price(4, 4, 3));
        checks.due("2: corner is kept", 3, x.cheapestWith(4, 4));
        checks.due("2: plans", 120, x.plans());
    }

    private static void promise2PriceUnbars() {
        RankedPairs x = new RankedPairs();
        x.price(2, 2, 40);
        x.bar(2, 2);
        checks.due("2: price of a barred pair", 0, x.price(2, 2, 0));
        checks.due("2: not barred", 120, x.plans());
        checks.due("2: new price", 0, x.cheapestWith(2, 2));
        x.bar(2, 2);
        checks.due("2: 100 for a barred pair", -1, x.price(2, 2, 100));
        checks.due("2: -1 for a barred pair", -1, x.price(2, 2, -1));
        checks.due("2: still barred", 96, x.plans());
    }

    private static void promise2Refusals() {
        RankedPairs x = allAt(1);
        x.bar(0, 0);
        for (int off : OFF_SIDE) {
            checks.due("2: worker " + off, -1, x.price(off, 0, 9));
            checks.due("2: task " + off, -1, x.price(0, off, 9));
            checks.due("2: both " + off, -1, x.price(off, off, 9));
            checks.due("2: worker " + off + ", task 4", -1, x.price(off, 4, 9));
            checks.due("2: worker 4, task " + off, -1, x.price(4, off, 9));
        }
        // A worker too far and a task too near would meet on a pair that there is.
        checks.due("2: (1, -1)", -1, x.price(1, -1, 9));
        checks.due("2: (5, -1)", -1, x.price(5, -1, 9));
        checks.due("2: (-1, 5)", -1, x.price(-1, 5, 9));
        for (int price : new int[] {-1, 100, -2, 101, LEAST, MOST}) {
            checks.due("2: price " + price, -1, x.price(3, 3, price));
        }
        checks.due("2: plans stay", 96, x.plans());
        checks.due("2: least cost stays", 5, x.cost(0));
        checks.due("2: greatest cost stays", 5, x.cost(95));
    }

    private static void promise3Bar() {
        RankedPairs x = new RankedPairs();
        checks.due("3: bar", 0, x.bar(0, 1));
        checks.due("3: plans", 96, x.plans());
        checks.due("3: bar again", 0, x.bar(0, 1));
        checks.due("3: plans again", 96, x.plans());
        checks.due("3: the pair is in no plan", -1, x.cheapestWith(0, 1));
        checks.due("3: the mirrored pair is", 0, x.cheapestWith(1, 0));
        checks.due("3: bar in the same row", 0, x.bar(0, 4));
        checks.due("3: plans without two of a row", 72, x.plans());
        checks.due("3: bar elsewhere", 0, x.bar(4, 0));
        checks.due("3: plans without three", 72 - 24 + 12, x.plans());
    }

    private static void promise3Refusals() {
        RankedPairs x = new RankedPairs();
        for (int off : OFF_SIDE) {
            checks.due("3: worker " + off, -1, x.bar(off, 0));
            checks.due("3: task " + off, -1, x.bar(0, off));
            checks.due("3: both " + off, -1, x.bar(off, off));
        }
        checks.due("3: (1, -1)", -1, x.bar(1, -1));
        checks.due("3: (-1, 5)", -1, x.bar(-1, 5));
        checks.due("3: plans stay", 120, x.plans());
    }

    private static void promise4Plans() {
        RankedPairs x = new RankedPairs();
        int[] due = {96, 78, 64, 53, 44};
        for (int i = 0; i < 5; i++) {
            x.bar(i, i);
            checks.due("4: plans with " + (i + 1) + " bars", due[i], x.plans());
        }
        checks.due("4: plans whatever the prices", 120, allAt(99).plans());
        checks.due("4: one plan", 1, onePlan().plans());
        RankedPairs none = withoutPlans();
        checks.due("4: no plan", 0, none.plans());
        none.price(2, 3, 4);
        checks.due("4: plans again", 24, none.plans());
        RankedPairs column = new RankedPairs();
        for (int worker = 0; worker < 5; worker++) {
            column.bar(worker, 3);
        }
        checks.due("4: a task that no worker may have", 0, column.plans());
    }

    private static void promise5Cost() {
        checks.due("5: sum of five prices", 31, onePlan().cost(0));
        checks.due("5: greatest cost", 495, allAt(99).cost(0));
        checks.due("5: greatest cost at the end", 495, allAt(99).cost(119));
        RankedPairs x = new RankedPairs();
        for (int task = 0; task < 5; task++) {
            x.price(0, task, 50 - 10 * task);
        }
        for (int rank = 0; rank < 120; rank++) {
            checks.due("5: cost(" + rank + ")", 10 + 10 * (rank / 24), x.cost(rank));
        }
    }

    private static void promise5Edges() {
        RankedPairs x = new RankedPairs();
        for (int rank : new int[] {-1, 120, 121, 3125, LEAST, MOST}) {
            checks.due("5: cost(" + rank + ")", -1, x.cost(rank));
        }
        x.bar(4, 4);
        checks.due("5: last rank", 0, x.cost(95));
        checks.due("5: rank that is gone", -1, x.cost(96));
        checks.due("5: one plan's second", -1, onePlan().cost(1));
        checks.due("5: no plans", -1, withoutPlans().cost(0));
    }

    private static void promise6Plan() {
        RankedPairs x = new RankedPairs();
        for (int rank = 1; rank < 120; rank++) {
            checks.dueTrue("6: equally dear plans by number", x.plan(rank - 1) < x.plan(rank));
        }
        checks.due("6: number", 2 * 625 + 0 * 125 + 4 * 25 + 1 * 5 + 3, onePlan().plan(0));
        x.price(0, 0, 1);
        checks.due("6: cheaper before lesser number", 1 * 625 + 2 * 25 + 3 * 5 + 4, x.plan(0));
        checks.due("6: last of the cheap ones", REVERSED, x.plan(95));
        checks.due("6: first of the dear ones", STRAIGHT, x.plan(96));
        checks.due("6: last of the dear ones", 4 * 125 + 3 * 25 + 2 * 5 + 1, x.plan(119));
        x.price(0, 0, 0);
        checks.due("6: first after the price is back", STRAIGHT, x.plan(0));
    }

    private static void promise6Edges() {
        RankedPairs x = new RankedPairs();
        for (int rank : new int[] {-1, 120, 121, 3125, LEAST, MOST}) {
            checks.due("6: plan(" + rank + ")", -1, x.plan(rank));
        }
        x.bar(0, 4);
        checks.due("6: last rank", 3 * 625 + 4 * 125 + 2 * 25 + 1 * 5, x.plan(95));
        checks.due("6: rank that is gone", -1, x.plan(96));
        checks.due("6: one plan's second", -1, onePlan().plan(1));
        checks.due("6: no plans", -1, withoutPlans().plan(0));
    }

    private static void promise7Task() {
        RankedPairs one = onePlan();
        int[] due = {2, 0, 4, 1, 3};
        RankedPairs x = new RankedPairs();
        for (int worker = 0; worker < 5; worker++) {
            checks.due("7: the one plan, worker " + worker, due[worker], one.task(0, worker));
            checks.due("7: first plan, worker " + worker, worker, x.task(0, worker));
            checks.due("7: last plan, worker " + worker, 4 - worker, x.task(119, worker));
        }
        x.price(0, 0, 1);
        checks.due("7: first plan after a price", 1, x.task(0, 0));
        checks.due("7: first plan after a price, next worker", 0, x.task(0, 1));
    }

    private static void promise7Edges() {
        RankedPairs x = new RankedPairs();
        for (int rank : new int[] {-1, 120, 121, LEAST, MOST}) {
            checks.due("7: rank " + rank, -1, x.task(rank, 0));
            checks.due("7: rank and worker " + rank, -1, x.task(rank, rank));
        }
        for (int off : OFF_SIDE) {
            checks.due("7: worker " + off, -1, x.task(0, off));
            checks.due("7: last plan, worker " + off, -1, x.task(119, off));
        }
        checks.due("7: one plan's second", -1, onePlan().task(1, 0));
        checks.due("7: no plans", -1, withoutPlans().task(0, 0));
    }

    private static void promise8Within() {
        RankedPairs x = new RankedPairs();
        for (int task = 0; task < 5; task++) {
            x.price(0, task, 50 - 10 * task);
        }
        int[] limits = {LEAST, -1, 0, 9, 10, 11, 19, 20, 30, 40, 49, 50, 51, 495, MOST};
        int[] due = {0, 0, 0, 0, 24, 24, 24, 48, 72, 96, 96, 120, 120, 120, 120};
        for (int i = 0; i < limits.length; i++) {
            checks.due("8: within(" + limits[i] + ")", due[i], x.within(limits[i]));
        }
        checks.due("8: below the greatest cost", 0, allAt(99).within(494));
        checks.due("8: the greatest cost", 120, allAt(99).within(495));
        checks.due("8: one plan, below", 0, onePlan().within(30));
        checks.due("8: one plan", 1, onePlan().within(31));
        checks.due("8: no plans", 0, withoutPlans().within(MOST));
        checks.due("8: no plans, -1", 0, withoutPlans().within(-1));
        checks.due("8: new object, -1", 0, new RankedPairs().within(-1));
    }

    private static void promise9Rank() {
        RankedPairs x = new RankedPairs();
        checks.due("9: first", 0, x.rank(STRAIGHT));
        checks.due("9: last", 119, x.rank(REVERSED));
        x.price(0, 0, 1);
        checks.due("9: first of the dear ones", 96, x.rank(STRAIGHT));
        checks.due("9: last of the cheap ones", 95, x.rank(REVERSED));
        for (int rank = 0; rank < 120; rank++) {
            checks.due("9: rank of plan(" + rank + ")", rank, x.rank(x.plan(rank)));
        }
        checks.due("9: one plan", 0, onePlan().rank(1358));
    }

    private static void promise9Edges() {
        RankedPairs x = new RankedPairs();
        int[] noPlans = {0, 1, 193, 195, 624, 2931, 3124, 3125, STRAIGHT + 3125, -1, -STRAIGHT,
                -REVERSED, LEAST, MOST};
        for (int number : noPlans) {
            checks.due("9: rank(" + number + ")", -1, x.rank(number));
        }
        x.bar(3, 3);
        checks.due("9: plan with a barred pair", -1, x.rank(STRAIGHT));
        // It was the last rank and is so still; the numbers left behind it do not count.
        checks.due("9: last rank", 95, x.rank(REVERSED));
        checks.due("9: one plan, another number", -1, onePlan().rank(STRAIGHT));
        checks.due("9: no plans", -1, withoutPlans().rank(STRAIGHT));
        checks.due("9: no plans, last number", -1, withoutPlans().rank(REVERSED));
    }

    private static void promise10CheapestWith() {
        RankedPairs x = new RankedPairs();
        for (int task = 0; task < 5; task++) {
            x.price(0, task, 10 + task);
        }
        for (int task = 0; task < 5; task++) {
            checks.due("10: worker 0, task " + task, 10 + task, x.cheapestWith(0, task));
        }
        // Another worker's task 0 leaves task 1 as worker 0's cheapest.
        checks.due("10: task 0 for worker 3", 11, x.cheapestWith(3, 0));
        checks.due("10: task 1 for worker 3", 10, x.cheapestWith(3, 1));
        checks.due("10: greatest", 495, allAt(99).cheapestWith(4, 4));
        checks.due("10: one plan", 31, onePlan().cheapestWith(4, 3));
    }

    private static void promise10Edges() {
        RankedPairs x = new RankedPairs();
        for (int off : OFF_SIDE) {
            checks.due("10: worker " + off, -1, x.cheapestWith(off, 0));
            checks.due("10: task " + off, -1, x.cheapestWith(0, off));
            checks.due("10: both " + off, -1, x.cheapestWith(off, off));
        }
        x.bar(1, 2);
        checks.due("10: barred pair", -1, x.cheapestWith(1, 2));
        checks.due("10: pair beside it", 0, x.cheapestWith(1, 3));
        checks.due("10: pair that is in no plan", -1, onePlan().cheapestWith(4, 2));
        checks.due("10: no plans", -1, withoutPlans().cheapestWith(0, 0));
        RankedPairs forced = new RankedPairs();
        for (int task = 0; task < 4; task++) {
            forced.bar(0, task);
        }
        checks.due("10: not barred, yet in no plan", -1, forced.cheapestWith(1, 4));
        checks.due("10: the forced pair", 0, forced.cheapestWith(0, 4));
    }
}
