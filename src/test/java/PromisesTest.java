/** Each promise on its own, with ordinary inputs and answers worked out by hand. */
public final class PromisesTest {
    private static final int STRAIGHT = Situations.STRAIGHT;
    private static final int REVERSED = Situations.REVERSED;
    private static final Checks checks = new Checks();

    public static void main(String[] args) {
        promise1NewObject();
        promise1ObjectsAreApart();
        promise2Price();
        promise2PriceUnbars();
        promise3Bar();
        promise4Plans();
        promise5Cost();
        promise6Plan();
        promise7Task();
        promise8Within();
        promise9Rank();
        promise10CheapestWith();
        checks.end("PromisesTest");
    }

    private static void promise1NewObject() {
        RankedPairs x = new RankedPairs();
        checks.due("1: plans", 120, x.plans());
        checks.due("1: first plan", STRAIGHT, x.plan(0));
        checks.due("1: last plan", REVERSED, x.plan(119));
        checks.due("1: first cost", 0, x.cost(0));
        checks.due("1: last cost", 0, x.cost(119));
        checks.due("1: within(0)", 120, x.within(0));
        for (int worker = 0; worker < 5; worker++) {
            for (int task = 0; task < 5; task++) {
                checks.due("1: cheapestWith", 0, x.cheapestWith(worker, task));
            }
        }
    }

    private static void promise1ObjectsAreApart() {
        RankedPairs before = new RankedPairs();
        RankedPairs changed = new RankedPairs();
        changed.bar(0, 0);
        changed.price(1, 1, 50);
        RankedPairs after = new RankedPairs();
        checks.due("1: older object's plans", 120, before.plans());
        checks.due("1: newer object's plans", 120, after.plans());
        checks.due("1: newer object's within(0)", 120, after.within(0));
        checks.due("1: changed object's plans", 96, changed.plans());
    }

    private static void promise2Price() {
        RankedPairs x = new RankedPairs();
        checks.due("2: price", 0, x.price(1, 3, 7));
        checks.due("2: the pair has it", 7, x.cheapestWith(1, 3));
        checks.due("2: the mirrored pair has not", 0, x.cheapestWith(3, 1));
        checks.due("2: 24 plans have it", 96, x.within(6));
        checks.due("2: price anew", 0, x.price(1, 3, 5));
        checks.due("2: not added up", 5, x.cheapestWith(1, 3));
        checks.due("2: greatest price", 0, x.price(1, 3, 99));
        checks.due("2: greatest price is kept", 99, x.cheapestWith(1, 3));
        checks.due("2: least price", 0, x.price(1, 3, 0));
        checks.due("2: least price is kept", 0, x.cheapestWith(1, 3));
        checks.due("2: corner", 0, x.price(4, 4, 3));
        checks.due("2: corner is kept", 3, x.cheapestWith(4, 4));
        checks.due("2: plans", 120, x.plans());
    }

    private static void promise2PriceUnbars() {
        RankedPairs x = new RankedPairs();
        x.price(2, 2, 40);
        x.bar(2, 2);
        checks.due("2: price of a barred pair", 0, x.price(2, 2, 0));
        checks.due("2: not barred", 120, x.plans());
        checks.due("2: new price", 0, x.cheapestWith(2, 2));
    }

    private static void promise3Bar() {
        RankedPairs x = new RankedPairs();
        checks.due("3: bar", 0, x.bar(0, 1));
        checks.due("3: plans", 96, x.plans());
        checks.due("3: bar again", 0, x.bar(0, 1));
        checks.due("3: plans again", 96, x.plans());
        checks.due("3: the pair is in no plan", -1, x.cheapestWith(0, 1));
        checks.due("3: the mirrored pair is", 0, x.cheapestWith(1, 0));
        checks.due("3: bar in the same row", 0, x.bar(0, 4));
        checks.due("3: plans without two of a row", 72, x.plans());
        checks.due("3: bar elsewhere", 0, x.bar(4, 0));
        checks.due("3: plans without three", 72 - 24 + 12, x.plans());
    }

    private static void promise4Plans() {
        RankedPairs x = new RankedPairs();
        int[] due = {96, 78, 64, 53, 44};
        for (int i = 0; i < 5; i++) {
            x.bar(i, i);
            checks.due("4: plans with " + (i + 1) + " bars", due[i], x.plans());
        }
    }

    private static void promise5Cost() {
        checks.due("5: sum of five prices", 31, Situations.onePlan().cost(0));
        RankedPairs x = Situations.stairs();
        for (int rank = 0; rank < 120; rank++) {
            checks.due("5: cost(" + rank + ")", 10 + 10 * (rank / 24), x.cost(rank));
        }
    }

    private static void promise6Plan() {
        RankedPairs x = new RankedPairs();
        for (int rank = 1; rank < 120; rank++) {
            checks.dueTrue("6: equally dear plans by number", x.plan(rank - 1) < x.plan(rank));
        }
        int number = 2 * 625 + 0 * 125 + 4 * 25 + 1 * 5 + 3;
        checks.due("6: number", number, Situations.onePlan().plan(0));
        x.price(0, 0, 1);
        checks.due("6: cheaper before lesser number", 1 * 625 + 2 * 25 + 3 * 5 + 4, x.plan(0));
        checks.due("6: last of the cheap ones", REVERSED, x.plan(95));
        checks.due("6: first of the dear ones", STRAIGHT, x.plan(96));
        checks.due("6: last of the dear ones", 4 * 125 + 3 * 25 + 2 * 5 + 1, x.plan(119));
        x.price(0, 0, 0);
        checks.due("6: first after the price is back", STRAIGHT, x.plan(0));
    }

    private static void promise7Task() {
        RankedPairs one = Situations.onePlan();
        int[] due = {2, 0, 4, 1, 3};
        RankedPairs x = new RankedPairs();
        for (int worker = 0; worker < 5; worker++) {
            checks.due("7: the one plan, worker " + worker, due[worker], one.task(0, worker));
            checks.due("7: first plan, worker " + worker, worker, x.task(0, worker));
            checks.due("7: last plan, worker " + worker, 4 - worker, x.task(119, worker));
        }
        x.price(0, 0, 1);
        checks.due("7: first plan after a price", 1, x.task(0, 0));
        checks.due("7: first plan after a price, next worker", 0, x.task(0, 1));
    }

    private static void promise8Within() {
        RankedPairs x = Situations.stairs();
        int[] limits = {5, 15, 25, 35, 45, 55, 300};
        int[] due = {0, 24, 48, 72, 96, 120, 120};
        for (int i = 0; i < limits.length; i++) {
            checks.due("8: within(" + limits[i] + ")", due[i], x.within(limits[i]));
        }
    }

    private static void promise9Rank() {
        RankedPairs x = new RankedPairs();
        checks.due("9: first", 0, x.rank(STRAIGHT));
        checks.due("9: last", 119, x.rank(REVERSED));
        x.price(0, 0, 1);
        checks.due("9: first of the dear ones", 96, x.rank(STRAIGHT));
        checks.due("9: last of the cheap ones", 95, x.rank(REVERSED));
        for (int rank = 0; rank < 120; rank++) {
            checks.due("9: rank of plan(" + rank + ")", rank, x.rank(x.plan(rank)));
        }
        checks.due("9: one plan", 0, Situations.onePlan().rank(Situations.ONLY));
    }

    private static void promise10CheapestWith() {
        RankedPairs x = new RankedPairs();
        for (int task = 0; task < 5; task++) {
            x.price(0, task, 10 + task);
        }
        for (int task = 0; task < 5; task++) {
            checks.due("10: worker 0, task " + task, 10 + task, x.cheapestWith(0, task));
        }
        // Another worker's task 0 leaves task 1 as worker 0's cheapest.
        checks.due("10: task 0 for worker 3", 11, x.cheapestWith(3, 0));
        checks.due("10: task 1 for worker 3", 10, x.cheapestWith(3, 1));
        checks.due("10: one plan", 31, Situations.onePlan().cheapestWith(4, 3));
    }
}
