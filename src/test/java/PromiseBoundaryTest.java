/** A test for each promise's boundary cases, beside those of the document's terms. */
public final class PromiseBoundaryTest {
    private static final int LEAST = Situations.LEAST;
    private static final int MOST = Situations.MOST;
    private static final int STRAIGHT = Situations.STRAIGHT;
    private static final int REVERSED = Situations.REVERSED;
    private static final int[] NO_RANKS = {-1, 120, -2, 121, -120, 256, 65536, 3125, LEAST, MOST};
    private static final Checks checks = new Checks();

    public static void main(String[] args) {
        promise1AllPricesAre0();
        promise1NoPairIsBarred();
        promise2SetsThePrice();
        promise2ThePairIsNotBarred();
        promise2PriceFrom0To99();
        promise2PairOutOfRange();
        promise3BarsThePair();
        promise3EveryPairBarred();
        promise3PairOutOfRange();
        promise4NoneToOne();
        promise4AtMost120();
        promise5LeastAndGreatest();
        promise5NoSuchRank();
        promise6LeastAndGreatest();
        promise6NoSuchRank();
        promise7FirstAndLast();
        promise7NoSuchRank();
        promise7NoSuchWorker();
        promise8AtMostTheLimit();
        promise8LimitOutOfReach();
        promise9FirstAndLast();
        promise9NoSuchNumber();
        promise9BarredNumber();
        promise10LeastAndGreatest();
        promise10NoPlanWithThePair();
        promise10PairOutOfRange();
        checks.end("PromiseBoundaryTest");
    }

    private static void promise1AllPricesAre0() {
        // What another object was told before is not this one's.
        Situations.allAt(99);
        RankedPairs x = new RankedPairs();
        checks.due("1: no plan below 0", 0, x.within(-1));
        checks.due("1: every plan at 0", 120, x.within(0));
        for (int rank = 0; rank < 120; rank++) {
            checks.due("1: cost(" + rank + ")", 0, x.cost(rank));
        }
    }

    private static void promise1NoPairIsBarred() {
        Situations.withoutPlans();
        RankedPairs x = new RankedPairs();
        checks.due("1: all plans", 120, x.plans());
        for (int pair = 0; pair < 25; pair++) {
            checks.due("1: pair " + pair, 0, x.cheapestWith(pair / 5, pair % 5));
        }
    }

    private static void promise2SetsThePrice() {
        RankedPairs x = new RankedPairs();
        for (int price : new int[] {99, 99, 0, 0, 1, 98, 99, 1, 0}) {
            checks.due("2: first pair at " + price, 0, x.price(0, 0, price));
            checks.due("2: first pair", price, x.cheapestWith(0, 0));
            checks.due("2: last pair at " + price, 0, x.price(4, 4, price));
            checks.due("2: last pair", 2 * price, x.cost(x.rank(STRAIGHT)));
        }
        checks.due("2: the last price counts", 120, x.within(0));
    }

    private static void promise2ThePairIsNotBarred() {
        for (int price : new int[] {0, 99}) {
            RankedPairs x = Situations.onePlan();
            checks.due("2: a barred pair", 0, x.price(0, 0, price));
            // The one plan is 2 0 4 1 3: with (0, 0) it takes (1, 2) to make another.
            checks.due("2: the other pairs stay barred", 1, x.plans());
            checks.due("2: another barred pair", 0, x.price(1, 2, price));
            checks.due("2: a second plan", 2, x.plans());
            checks.due("2: its price", 2 * price + 28, x.cost(price == 0 ? 0 : 1));
        }
        RankedPairs open = new RankedPairs();
        checks.due("2: a pair that is not barred", 0, open.price(0, 0, 99));
        checks.due("2: is not barred then", 120, open.plans());
    }

    private static void promise2PriceFrom0To99() {
        for (int price : Situations.OFF_PRICE) {
            RankedPairs x = Situations.allAt(1);
            x.bar(0, 0);
            checks.due("2: price " + price, -1, x.price(3, 3, price));
            checks.due("2: its price stays", 5, x.cheapestWith(3, 3));
            checks.due("2: price " + price + " for a barred pair", -1, x.price(0, 0, price));
            checks.due("2: it stays barred", 96, x.plans());
            checks.due("2: all prices stay", 96, x.within(5));
            checks.due("2: none is less", 0, x.within(4));
            checks.due("2: price and pair out of range", -1, x.price(5, -1, price));
        }
    }

    private static void promise2PairOutOfRange() {
        RankedPairs x = Situations.allAt(1);
        x.bar(0, 0);
        for (int off : Situations.OFF_SIDE) {
            checks.due("2: worker " + off, -1, x.price(off, 0, 9));
            checks.due("2: task " + off, -1, x.price(0, off, 9));
            checks.due("2: both " + off, -1, x.price(off, off, 9));
            checks.due("2: worker " + off + ", task 4", -1, x.price(off, 4, 0));
            checks.due("2: worker 4, task " + off, -1, x.price(4, off, 99));
        }
        // A worker too far and a task too near would meet on a pair that there is.
        checks.due("2: (1, -1)", -1, x.price(1, -1, 9));
        checks.due("2: (5, -1)", -1, x.price(5, -1, 9));
        checks.due("2: (-1, 5)", -1, x.price(-1, 5, 9));
        checks.due("2: plans stay", 96, x.plans());
        checks.due("2: least cost stays", 5, x.cost(0));
        checks.due("2: greatest cost stays", 5, x.cost(95));
    }

    private static void promise3BarsThePair() {
        for (int price : new int[] {0, 99}) {
            RankedPairs x = Situations.allAt(price);
            checks.due("3: first pair", 0, x.bar(0, 0));
            checks.due("3: first pair again", 0, x.bar(0, 0));
            checks.due("3: without it", 96, x.plans());
            checks.due("3: it is in no plan", -1, x.cheapestWith(0, 0));
            checks.due("3: last pair", 0, x.bar(4, 4));
            checks.due("3: without both", 78, x.plans());
            checks.due("3: the other prices stay", 5 * price, x.cost(77));
        }
    }

    private static void promise3EveryPairBarred() {
        RankedPairs x = new RankedPairs();
        for (int pair = 0; pair < 25; pair++) {
            checks.due("3: pair " + pair, 0, x.bar(pair / 5, pair % 5));
        }
        checks.due("3: no plan is left", 0, x.plans());
        checks.due("3: bar where all is barred", 0, x.bar(2, 2));
        checks.due("3: still none", 0, x.within(MOST));
        for (int worker = 0; worker < 5; worker++) {
            checks.due("3: no plan yet", -1, x.cost(0));
            x.price(worker, worker, 99);
        }
        checks.due("3: one plan again", 1, x.plans());
        checks.due("3: the one that was priced", STRAIGHT, x.plan(0));
    }

    private static void promise3PairOutOfRange() {
        RankedPairs x = new RankedPairs();
        for (int off : Situations.OFF_SIDE) {
            checks.due("3: worker " + off, -1, x.bar(off, 0));
            checks.due("3: task " + off, -1, x.bar(0, off));
            checks.due("3: both " + off, -1, x.bar(off, off));
            checks.due("3: worker " + off + ", task 4", -1, x.bar(off, 4));
            checks.due("3: worker 4, task " + off, -1, x.bar(4, off));
        }
        checks.due("3: (1, -1)", -1, x.bar(1, -1));
        checks.due("3: (5, -1)", -1, x.bar(5, -1));
        checks.due("3: (-1, 5)", -1, x.bar(-1, 5));
        checks.due("3: plans stay", 120, x.plans());
        checks.due("3: prices stay", 120, x.within(0));
    }

    private static void promise4NoneToOne() {
        RankedPairs x = Situations.onePlan();
        checks.due("4: one plan", 1, x.plans());
        x.bar(4, 3);
        checks.due("4: no plan", 0, x.plans());
        x.bar(4, 3);
        checks.due("4: no plan, barred again", 0, x.plans());
        x.price(4, 3, 99);
        checks.due("4: one plan again", 1, x.plans());
        RankedPairs row = Situations.withoutPlans();
        checks.due("4: a worker without a task", 0, row.plans());
        row.price(2, 3, 4);
        checks.due("4: a worker with one task", 24, row.plans());
        RankedPairs column = new RankedPairs();
        for (int worker = 0; worker < 5; worker++) {
            column.bar(worker, 3);
        }
        checks.due("4: a task without a worker", 0, column.plans());
    }

    private static void promise4AtMost120() {
        checks.due("4: all plans", 120, new RankedPairs().plans());
        checks.due("4: all plans at the greatest price", 120, Situations.allAt(99).plans());
        RankedPairs x = new RankedPairs();
        for (int turn = 0; turn < 250; turn++) {
            x.price(turn % 5, turn / 5 % 5, turn % 100);
            checks.due("4: after price " + turn, 120, x.plans());
        }
        RankedPairs back = Situations.withoutPlans();
        for (int task = 0; task < 5; task++) {
            back.price(2, task, task);
            checks.due("4: as the bars are undone", 24 * (task + 1), back.plans());
        }
    }

    private static void promise5LeastAndGreatest() {
        RankedPairs x = Situations.allAt(99);
        checks.due("5: greatest cost, first", 495, x.cost(0));
        checks.due("5: greatest cost, last", 495, x.cost(119));
        for (int worker = 0; worker < 5; worker++) {
            x.price(worker, 4 - worker, 0);
        }
        checks.due("5: least cost", 0, x.cost(0));
        checks.due("5: greatest beside it", 495, x.cost(119));
        RankedPairs one = Situations.onePlan();
        checks.due("5: one plan", 31, one.cost(0));
        one.price(4, 3, 99);
        checks.due("5: one plan, dearer", 114, one.cost(0));
    }

    private static void promise5NoSuchRank() {
        RankedPairs x = Situations.allAt(7);
        for (int rank : NO_RANKS) {
            checks.due("5: cost(" + rank + ")", -1, x.cost(rank));
        }
        x.bar(4, 4);
        checks.due("5: last rank", 35, x.cost(95));
        checks.due("5: rank that is gone", -1, x.cost(96));
        checks.due("5: last rank that is gone", -1, x.cost(119));
        x.price(4, 4, 7);
        checks.due("5: rank that is back", 35, x.cost(119));
        checks.due("5: before the one plan", -1, Situations.onePlan().cost(-1));
        checks.due("5: behind the one plan", -1, Situations.onePlan().cost(1));
        for (int rank : new int[] {-1, 0, 1, 119, LEAST, MOST}) {
            checks.due("5: no plans, " + rank, -1, Situations.withoutPlans().cost(rank));
        }
    }

    private static void promise6LeastAndGreatest() {
        RankedPairs x = new RankedPairs();
        checks.due("6: least number", STRAIGHT, x.plan(0));
        checks.due("6: greatest number", REVERSED, x.plan(119));
        x.price(0, 0, 1);
        checks.due("6: the least is no more the first", 694, x.plan(0));
        checks.due("6: the greatest is no more the last", REVERSED, x.plan(95));
        checks.due("6: the least behind it", STRAIGHT, x.plan(96));
        checks.due("6: the last", 586, x.plan(119));
        checks.due("6: one plan", Situations.ONLY, Situations.onePlan().plan(0));
    }

    private static void promise6NoSuchRank() {
        RankedPairs x = new RankedPairs();
        for (int rank : NO_RANKS) {
            checks.due("6: plan(" + rank + ")", -1, x.plan(rank));
        }
        x.bar(0, 4);
        checks.due("6: last rank", 3 * 625 + 4 * 125 + 2 * 25 + 1 * 5, x.plan(95));
        checks.due("6: rank that is gone", -1, x.plan(96));
        checks.due("6: last rank that is gone", -1, x.plan(119));
        x.price(0, 4, 0);
        checks.due("6: rank that is back", REVERSED, x.plan(119));
        checks.due("6: before the one plan", -1, Situations.onePlan().plan(-1));
        checks.due("6: behind the one plan", -1, Situations.onePlan().plan(1));
        for (int rank : new int[] {-1, 0, 1, 119, LEAST, MOST}) {
            checks.due("6: no plans, " + rank, -1, Situations.withoutPlans().plan(rank));
        }
    }

    private static void promise7FirstAndLast() {
        RankedPairs x = new RankedPairs();
        RankedPairs one = Situations.onePlan();
        int[] due = {2, 0, 4, 1, 3};
        for (int worker = 0; worker < 5; worker++) {
            checks.due("7: first rank, worker " + worker, worker, x.task(0, worker));
            checks.due("7: last rank, worker " + worker, 4 - worker, x.task(119, worker));
            checks.due("7: one plan, worker " + worker, due[worker], one.task(0, worker));
        }
    }

    private static void promise7NoSuchRank() {
        RankedPairs x = new RankedPairs();
        for (int rank : NO_RANKS) {
            checks.due("7: rank " + rank, -1, x.task(rank, 0));
            checks.due("7: rank " + rank + ", worker 4", -1, x.task(rank, 4));
            checks.due("7: rank and worker " + rank, -1, x.task(rank, rank));
        }
        x.bar(0, 4);
        checks.due("7: last rank", 3, x.task(95, 0));
        checks.due("7: rank that is gone", -1, x.task(96, 0));
        checks.due("7: last rank that is gone", -1, x.task(119, 0));
        for (int worker = 0; worker < 5; worker++) {
            checks.due("7: behind the one plan", -1, Situations.onePlan().task(1, worker));
            checks.due("7: no plans", -1, Situations.withoutPlans().task(0, worker));
        }
    }

    private static void promise7NoSuchWorker() {
        RankedPairs x = new RankedPairs();
        for (int off : Situations.OFF_SIDE) {
            checks.due("7: worker " + off, -1, x.task(0, off));
            checks.due("7: last rank, worker " + off, -1, x.task(119, off));
            checks.due("7: no rank, worker " + off, -1, x.task(120, off));
            checks.due("7: one plan, worker " + off, -1, Situations.onePlan().task(0, off));
            checks.due("7: no plans, worker " + off, -1, Situations.withoutPlans().task(0, off));
        }
    }

    private static void promise8AtMostTheLimit() {
        RankedPairs x = Situations.stairs();
        for (int step = 1; step <= 5; step++) {
            int limit = 10 * step;
            checks.due("8: just below " + limit, 24 * (step - 1), x.within(limit - 1));
            checks.due("8: just " + limit, 24 * step, x.within(limit));
            checks.due("8: just above " + limit, 24 * step, x.within(limit + 1));
        }
        checks.due("8: one plan, just below", 0, Situations.onePlan().within(30));
        checks.due("8: one plan, just its price", 1, Situations.onePlan().within(31));
        checks.due("8: just below the greatest price", 0, Situations.allAt(99).within(494));
        checks.due("8: the greatest price", 120, Situations.allAt(99).within(495));
        checks.due("8: just above the greatest price", 120, Situations.allAt(99).within(496));
        checks.due("8: just the least price", 120, new RankedPairs().within(0));
    }

    private static void promise8LimitOutOfReach() {
        for (int limit : new int[] {-1, -2, -495, LEAST + 1, LEAST}) {
            checks.due("8: free plans, " + limit, 0, new RankedPairs().within(limit));
            checks.due("8: dear plans, " + limit, 0, Situations.allAt(99).within(limit));
            checks.due("8: one plan, " + limit, 0, Situations.onePlan().within(limit));
            checks.due("8: no plans, " + limit, 0, Situations.withoutPlans().within(limit));
        }
        for (int limit : new int[] {496, 65536, MOST - 1, MOST}) {
            checks.due("8: free plans, " + limit, 120, new RankedPairs().within(limit));
            checks.due("8: dear plans, " + limit, 120, Situations.allAt(99).within(limit));
            checks.due("8: one plan, " + limit, 1, Situations.onePlan().within(limit));
            checks.due("8: no plans, " + limit, 0, Situations.withoutPlans().within(limit));
        }
        checks.due("8: no plans, 0", 0, Situations.withoutPlans().within(0));
    }

    private static void promise9FirstAndLast() {
        RankedPairs x = new RankedPairs();
        checks.due("9: least number", 0, x.rank(STRAIGHT));
        checks.due("9: greatest number", 119, x.rank(REVERSED));
        checks.due("9: one plan", 0, Situations.onePlan().rank(Situations.ONLY));
        x.price(4, 4, 99);
        checks.due("9: least number, dear", 96, x.rank(STRAIGHT));
        x.price(0, 0, 99);
        x.price(1, 1, 1);
        checks.due("9: least number, dearest but for the next", 118, x.rank(STRAIGHT));
        x.price(2, 2, 1);
        checks.due("9: least number, dearest", 119, x.rank(STRAIGHT));
    }

    private static void promise9NoSuchNumber() {
        int[] noPlans = {0, 1, 193, 195, 624, 625, 781, 2929, 2931, 3124, 3125, 3126, -1,
            STRAIGHT + 3125, STRAIGHT - 3125, STRAIGHT + 65536, -STRAIGHT, -REVERSED,
            LEAST, LEAST + STRAIGHT, MOST};
        for (int number : noPlans) {
            checks.due("9: rank(" + number + ")", -1, new RankedPairs().rank(number));
            checks.due("9: one plan, " + number, -1, Situations.onePlan().rank(number));
            checks.due("9: no plans, " + number, -1, Situations.withoutPlans().rank(number));
        }
    }

    private static void promise9BarredNumber() {
        RankedPairs x = new RankedPairs();
        x.bar(3, 3);
        checks.due("9: plan with a barred pair", -1, x.rank(STRAIGHT));
        // It was the last rank and is so still; the numbers left behind it do not count.
        checks.due("9: last rank", 95, x.rank(REVERSED));
        x.price(3, 3, 0);
        checks.due("9: the plan is back", 0, x.rank(STRAIGHT));
        x.bar(0, 4);
        checks.due("9: the last plan is barred", -1, x.rank(REVERSED));
        checks.due("9: all but the one plan", -1, Situations.onePlan().rank(STRAIGHT));
        checks.due("9: no plans", -1, Situations.withoutPlans().rank(STRAIGHT));
        checks.due("9: no plans, last number", -1, Situations.withoutPlans().rank(REVERSED));
    }

    private static void promise10LeastAndGreatest() {
        RankedPairs x = Situations.allAt(99);
        for (int pair = 0; pair < 25; pair++) {
            checks.due("10: greatest", 495, x.cheapestWith(pair / 5, pair % 5));
        }
        x.price(0, 0, 98);
        checks.due("10: less by 1", 494, x.cheapestWith(0, 0));
        checks.due("10: less by 1 for another worker", 494, x.cheapestWith(4, 4));
        checks.due("10: not with the same task", 495, x.cheapestWith(4, 0));
        checks.due("10: not with the same worker", 495, x.cheapestWith(0, 4));
        checks.due("10: least", 0, new RankedPairs().cheapestWith(4, 4));
        checks.due("10: one plan", 31, Situations.onePlan().cheapestWith(4, 3));
    }

    private static void promise10NoPlanWithThePair() {
        RankedPairs x = new RankedPairs();
        x.bar(1, 2);
        checks.due("10: barred pair", -1, x.cheapestWith(1, 2));
        checks.due("10: pair beside it", 0, x.cheapestWith(1, 3));
        x.price(1, 2, 99);
        checks.due("10: no more barred", 99, x.cheapestWith(1, 2));
        checks.due("10: barred beside the one plan", -1, Situations.onePlan().cheapestWith(4, 2));
        for (int pair = 0; pair < 25; pair++) {
            checks.due("10: no plans, pair " + pair, -1,
                    Situations.withoutPlans().cheapestWith(pair / 5, pair % 5));
        }
        RankedPairs forced = new RankedPairs();
        for (int task = 0; task < 4; task++) {
            forced.bar(0, task);
        }
        checks.due("10: not barred, yet in no plan", -1, forced.cheapestWith(1, 4));
        checks.due("10: the forced pair", 0, forced.cheapestWith(0, 4));
    }

    private static void promise10PairOutOfRange() {
        RankedPairs x = new RankedPairs();
        for (int off : Situations.OFF_SIDE) {
            for (int side : new int[] {0, 4, off}) {
                checks.due("10: worker " + off, -1, x.cheapestWith(off, side));
                checks.due("10: task " + off, -1, x.cheapestWith(side, off));
            }
        }
        checks.due("10: (1, -1)", -1, x.cheapestWith(1, -1));
        checks.due("10: (5, -1)", -1, x.cheapestWith(5, -1));
        checks.due("10: (-1, 5)", -1, x.cheapestWith(-1, 5));
    }
}
