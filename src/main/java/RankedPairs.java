/** All ways to give five workers five tasks, from the cheapest on. */
public final class RankedPairs {
    private static final int SIDE = 5;
    private static final int PAIRS = 25;
    private static final int NUMBERS = 3125;
    private static final int MOST_PLANS = 120;
    private static final int MOST_PRICE = 99;
    private static final int BARRED = -1;
    private static final int REFUSED = -1;
    private static final int NONE = -1;
    private static final int DONE = 0;

    private final int[] prices = new int[PAIRS];
    private final int[] rankedNumbers = new int[MOST_PLANS];
    private final int[] rankedCosts = new int[MOST_PLANS];
    private int planCount = 0;

    public RankedPairs() {
        rankPlans();
    }

    public int price(int worker, int task, int price) {
        if (!isPair(worker, task) || price < 0 || price > MOST_PRICE) {
            return REFUSED;
        }
        prices[worker * SIDE + task] = price;
        rankPlans();
        return DONE;
    }

    public int bar(int worker, int task) {
        if (!isPair(worker, task)) {
            return REFUSED;
        }
        prices[worker * SIDE + task] = BARRED;
        rankPlans();
        return DONE;
    }

    public int plans() {
        return planCount;
    }

    public int cost(int rank) {
        return isRank(rank) ? rankedCosts[rank] : NONE;
    }

    public int plan(int rank) {
        return isRank(rank) ? rankedNumbers[rank] : NONE;
    }

    public int task(int rank, int worker) {
        if (!isRank(rank) || !isOnSide(worker)) {
            return NONE;
        }
        return taskInNumber(rankedNumbers[rank], worker);
    }

    public int within(int limit) {
        int count = 0;
        for (int rank = 0; rank < planCount; rank++) {
            if (rankedCosts[rank] <= limit) {
                count++;
            }
        }
        return count;
    }

    public int rank(int number) {
        for (int rank = 0; rank < planCount; rank++) {
            if (rankedNumbers[rank] == number) {
                return rank;
            }
        }
        return NONE;
    }

    public int cheapestWith(int worker, int task) {
        if (!isPair(worker, task)) {
            return REFUSED;
        }
        // The plans stand from the cheapest on, so the first one found is the cheapest.
        for (int rank = 0; rank < planCount; rank++) {
            if (taskInNumber(rankedNumbers[rank], worker) == task) {
                return rankedCosts[rank];
            }
        }
        return NONE;
    }

    private static boolean isOnSide(int index) {
        return index >= 0 && index < SIDE;
    }

    private static boolean isPair(int worker, int task) {
        return isOnSide(worker) && isOnSide(task);
    }

    private boolean isRank(int rank) {
        return rank >= 0 && rank < planCount;
    }

    private static int taskInNumber(int number, int worker) {
        int rest = number;
        for (int later = SIDE - 1; later > worker; later--) {
            rest /= SIDE;
        }
        return rest % SIDE;
    }

    private void rankPlans() {
        planCount = 0;
        // There are no more than MOST_PLANS; the second bound keeps the arrays' ends in sight.
        for (int number = 0; number < NUMBERS && planCount < MOST_PLANS; number++) {
            int cost = costOfNumber(number);
            if (cost != NONE) {
                insertPlan(number, cost);
            }
        }
    }

    /** The price of the plan with the number, from 0 to NUMBERS - 1; NONE if it is no plan's. */
    private int costOfNumber(int number) {
        int rest = number;
        int tasksTaken = 0;
        int sum = 0;
        for (int worker = SIDE - 1; worker >= 0; worker--) {
            int task = rest % SIDE;
            int taskBit = 1 << task;
            int price = prices[worker * SIDE + task];
            if (price == BARRED || (tasksTaken & taskBit) != 0) {
                return NONE;
            }
            tasksTaken |= taskBit;
            sum += price;
            rest /= SIDE;
        }
        return sum;
    }

    private void insertPlan(int number, int cost) {
        int place = planCount;
        // Numbers come in rising order, so a plan stays behind those that cost the same.
        while (place > 0 && rankedCosts[place - 1] > cost) {
            rankedCosts[place] = rankedCosts[place - 1];
            rankedNumbers[place] = rankedNumbers[place - 1];
            place--;
        }
        rankedCosts[place] = cost;
        rankedNumbers[place] = number;
        planCount++;
    }
}
