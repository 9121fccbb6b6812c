import java.util.ArrayList;
import java.util.List;

/** Each of the 120 plans as the only one, and each least set of bars that leaves none. */
public final class EachPlanTest {
    private static final Checks checks = new Checks();

    public static void main(String[] args) {
        List<int[]> plans = everyPlan();
        checks.due("ways to give five tasks", 120, plans.size());
        for (int[] tasks : plans) {
            theOnlyPlan(tasks);
            theOneCheapPlan(tasks);
            theOneDearPlan(tasks);
        }
        noPlanIsLeft();
        checks.end("EachPlanTest");
    }

    private static List<int[]> everyPlan() {
        List<int[]> plans = new ArrayList<>();
        for (int a = 0; a < 5; a++) {
            for (int b = 0; b < 5; b++) {
                for (int c = 0; c < 5; c++) {
                    for (int d = 0; d < 5; d++) {
                        int e = 10 - a - b - c - d;
                        if ((1 << a | 1 << b | 1 << c | 1 << d | 1 << e) == 31) {
                            plans.add(new int[] {a, b, c, d, e});
                        }
                    }
                }
            }
        }
        return plans;
    }

    private static int numberOf(int[] tasks) {
        return 625 * tasks[0] + 125 * tasks[1] + 25 * tasks[2] + 5 * tasks[3] + tasks[4];
    }

    private static String name(int[] tasks) {
        return "plan " + tasks[0] + tasks[1] + tasks[2] + tasks[3] + tasks[4];
    }

    /** All pairs but the plan's are barred; those are priced 6, 7, 9, 13 and 21. */
    private static void theOnlyPlan(int[] tasks) {
        RankedPairs x = new RankedPairs();
        for (int pair = 0; pair < 25; pair++) {
            if (tasks[pair / 5] == pair % 5) {
                x.price(pair / 5, pair % 5, 5 + (1 << pair / 5));
            } else {
                x.bar(pair / 5, pair % 5);
            }
        }
        String what = name(tasks) + " alone: ";
        checks.due(what + "plans", 1, x.plans());
        checks.due(what + "cost", 56, x.cost(0));
        checks.due(what + "next cost", -1, x.cost(1));
        checks.due(what + "number", numberOf(tasks), x.plan(0));
        checks.due(what + "next number", -1, x.plan(1));
        checks.due(what + "rank", 0, x.rank(numberOf(tasks)));
        checks.due(what + "within less", 0, x.within(55));
        checks.due(what + "within its price", 1, x.within(56));
        for (int pair = 0; pair < 25; pair++) {
            boolean has = tasks[pair / 5] == pair % 5;
            checks.due(what + "pair " + pair, has ? 56 : -1, x.cheapestWith(pair / 5, pair % 5));
        }
        for (int worker = 0; worker < 5; worker++) {
            checks.due(what + "worker " + worker, tasks[worker], x.task(0, worker));
            checks.due(what + "next plan's worker " + worker, -1, x.task(1, worker));
        }
    }

    /** The plan's pairs are free, all others cost 1: it is the first, whatever its number. */
    private static void theOneCheapPlan(int[] tasks) {
        RankedPairs x = Situations.allAt(1);
        for (int worker = 0; worker < 5; worker++) {
            x.price(worker, tasks[worker], 0);
        }
        String what = name(tasks) + " cheap: ";
        checks.due(what + "number", numberOf(tasks), x.plan(0));
        checks.due(what + "cost", 0, x.cost(0));
        checks.due(what + "within 0", 1, x.within(0));
        // Two workers at least have another task then: ten plans swap the tasks of two.
        checks.due(what + "within 1", 1, x.within(1));
        checks.due(what + "within 2", 11, x.within(2));
        checks.due(what + "within 3", 31, x.within(3));
        checks.due(what + "within 4", 76, x.within(4));
        checks.due(what + "within 5", 120, x.within(5));
    }

    /** The plan's pairs cost 99, all others nothing: it is the last, whatever its number. */
    private static void theOneDearPlan(int[] tasks) {
        RankedPairs x = new RankedPairs();
        for (int worker = 0; worker < 5; worker++) {
            x.price(worker, tasks[worker], 99);
        }
        String what = name(tasks) + " dear: ";
        checks.due(what + "number", numberOf(tasks), x.plan(119));
        checks.due(what + "rank", 119, x.rank(numberOf(tasks)));
        checks.due(what + "cost", 495, x.cost(119));
        checks.due(what + "cost before it", 297, x.cost(118));
        for (int worker = 0; worker < 5; worker++) {
            checks.due(what + "worker " + worker, tasks[worker], x.task(119, worker));
        }
        x.bar(2, tasks[2]);
        checks.due(what + "barred", -1, x.rank(numberOf(tasks)));
        checks.due(what + "plans without it", 96, x.plans());
    }

    /** No plan is left just where some workers have too few tasks between them. */
    private static void noPlanIsLeft() {
        int ways = 0;
        for (int workers = 1; workers < 32; workers++) {
            for (int tasks = 1; tasks < 32; tasks++) {
                if (Integer.bitCount(workers) + Integer.bitCount(tasks) == 6) {
                    leavesNoPlan(workers, tasks);
                    ways++;
                }
            }
        }
        checks.due("least sets of bars", 210, ways);
    }

    private static void leavesNoPlan(int workers, int tasks) {
        RankedPairs x = new RankedPairs();
        int last = -1;
        for (int pair = 0; pair < 25; pair++) {
            if ((workers >> pair / 5 & 1) == 1 && (tasks >> pair % 5 & 1) == 1) {
                x.bar(pair / 5, pair % 5);
                last = pair;
            }
        }
        String what = "workers " + workers + " barred from tasks " + tasks + ": ";
        checks.due(what + "plans", 0, x.plans());
        checks.due(what + "cost", -1, x.cost(0));
        checks.due(what + "number", -1, x.plan(0));
        checks.due(what + "task", -1, x.task(0, 0));
        checks.due(what + "within", 0, x.within(Situations.MOST));
        checks.due(what + "rank", -1, x.rank(Situations.STRAIGHT));
        for (int pair = 0; pair < 25; pair++) {
            checks.due(what + "pair " + pair, -1, x.cheapestWith(pair / 5, pair % 5));
        }
        x.price(last / 5, last % 5, 42);
        checks.due(what + "a plan when one bar is gone", 42, x.cost(0));
        checks.due(what + "all plans have that pair", x.plans(), x.within(42));
        checks.due(what + "none is cheaper", 0, x.within(41));
    }
}
