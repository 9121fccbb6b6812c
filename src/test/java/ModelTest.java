import java.util.ArrayList;
import java.util.Comparator;
import java.util.List;

/** Runs of calls beside a plain model of the document, at most 512 calls an object. */
public final class ModelTest {
    private static final int MOST_CALLS = 512;
    private static final Checks checks = new Checks();
    private static int seed = 20261115;

    /** A plan as the document tells it: the tasks of the workers, and their price. */
    private record Plan(int[] tasks, int cost, int number) { }

    private static final class Model {
        final int[][] prices = new int[5][5];
        final boolean[][] barred = new boolean[5][5];

        List<Plan> ranked() {
            List<Plan> plans = new ArrayList<>();
            extend(new int[5], 0, plans);
            plans.sort(Comparator.comparingInt(Plan::cost).thenComparingInt(Plan::number));
            return plans;
        }

        private void extend(int[] tasks, int worker, List<Plan> plans) {
            if (worker == 5) {
                plans.add(finished(tasks.clone()));
                return;
            }
            for (int task = 0; task < 5; task++) {
                boolean free = !barred[worker][task];
                for (int other = 0; other < worker; other++) {
                    free &= tasks[other] != task;
                }
                if (free) {
                    tasks[worker] = task;
                    extend(tasks, worker + 1, plans);
                }
            }
        }

        private Plan finished(int[] tasks) {
            int cost = 0;
            int number = 0;
            for (int worker = 0; worker < 5; worker++) {
                cost += prices[worker][tasks[worker]];
                number += (int) Math.pow(5, 4 - worker) * tasks[worker];
            }
            return new Plan(tasks, cost, number);
        }

        /** What a call that changes the state is due to answer. */
        int change(int[] call) {
            boolean inRange = onSide(call[1]) && onSide(call[2]);
            if (call[0] == 0) {
                if (!inRange || call[3] < 0 || call[3] > 99) {
                    return -1;
                }
                prices[call[1]][call[2]] = call[3];
                barred[call[1]][call[2]] = false;
                return 0;
            }
            if (!inRange) {
                return -1;
            }
            barred[call[1]][call[2]] = true;
            return 0;
        }
    }

    public static void main(String[] args) {
        for (int round = 0; round < 25; round++) {
            everyQueryAfter(changes(10 + 3 * round, round % 5));
        }
        for (int round = 0; round < 100; round++) {
            mixedRun(round % 5);
        }
        checks.end("ModelTest");
    }

    private static boolean onSide(int index) {
        return index >= 0 && index < 5;
    }

    /** A fixed sequence that looks random, so that every run of the test is the same. */
    private static int next(int bound) {
        seed = seed * 1103515245 + 12345;
        return (seed >>> 8) % bound;
    }

    private static int nextIndex() {
        return next(12) == 0 ? next(20) - 8 : next(5);
    }

    /** {0, worker, task, price} for price, {1, worker, task, 0} for bar; few prices give many ties. */
    private static int[] change(int style) {
        int[] tops = {100, 3, 1, 104, 20};
        boolean bars = next(10) < style;
        int price = next(15) == 0 ? next(300) - 100 : next(tops[style]);
        return new int[] {bars ? 1 : 0, nextIndex(), nextIndex(), bars ? 0 : price};
    }

    private static List<int[]> changes(int count, int style) {
        List<int[]> changes = new ArrayList<>();
        for (int i = 0; i < count; i++) {
            changes.add(change(style));
        }
        return changes;
    }

    private static int callChange(RankedPairs x, int[] call) {
        return call[0] == 0 ? x.price(call[1], call[2], call[3]) : x.bar(call[1], call[2]);
    }

    /** {2} plans, {3, rank} cost, {4, rank} plan, {5, rank, worker} task, and so on to 8. */
    private static int callQuery(RankedPairs x, int[] call) {
        return switch (call[0]) {
            case 2 -> x.plans();
            case 3 -> x.cost(call[1]);
            case 4 -> x.plan(call[1]);
            case 5 -> x.task(call[1], call[2]);
            case 6 -> x.within(call[1]);
            case 7 -> x.rank(call[1]);
            default -> x.cheapestWith(call[1], call[2]);
        };
    }

    private static int dueQuery(List<Plan> ranked, int[] call) {
        int first = call[1];
        int second = call[2];
        boolean isRank = first >= 0 && first < ranked.size();
        return switch (call[0]) {
            case 2 -> ranked.size();
            case 3 -> isRank ? ranked.get(first).cost() : -1;
            case 4 -> isRank ? ranked.get(first).number() : -1;
            case 5 -> isRank && onSide(second) ? ranked.get(first).tasks()[second] : -1;
            case 6 -> (int) ranked.stream().filter(plan -> plan.cost() <= first).count();
            case 7 -> ranked.stream().map(Plan::number).toList().indexOf(first);
            default -> !onSide(first) || !onSide(second) ? -1 : ranked.stream()
                    .filter(plan -> plan.tasks()[first] == second)
                    .mapToInt(Plan::cost).min().orElse(-1);
        };
    }

    private static List<int[]> everyQuery() {
        List<int[]> queries = new ArrayList<>();
        queries.add(new int[] {2, 0, 0});
        for (int rank = -2; rank < 123; rank++) {
            queries.add(new int[] {3, rank, 0});
            queries.add(new int[] {4, rank, 0});
            for (int worker = -1; worker <= 5; worker++) {
                queries.add(new int[] {5, rank, worker});
            }
        }
        for (int limit = -2; limit < 500; limit++) {
            queries.add(new int[] {6, limit, 0});
        }
        for (int number = -2; number < 3130; number++) {
            queries.add(new int[] {7, number, 0});
        }
        for (int pair = 0; pair < 49; pair++) {
            queries.add(new int[] {8, pair / 7 - 1, pair % 7 - 1});
        }
        return queries;
    }

    /** Asks everything, on as many objects of the same changes as the bound on calls needs. */
    private static void everyQueryAfter(List<int[]> changes) {
        Model model = new Model();
        for (int[] call : changes) {
            model.change(call);
        }
        List<Plan> ranked = model.ranked();
        RankedPairs x = null;
        int calls = MOST_CALLS;
        for (int[] query : everyQuery()) {
            if (calls == MOST_CALLS) {
                x = new RankedPairs();
                for (int[] call : changes) {
                    callChange(x, call);
                }
                calls = changes.size();
            }
            checkQuery(x, ranked, query);
            calls++;
        }
    }

    private static void checkQuery(RankedPairs x, List<Plan> ranked, int[] query) {
        String what = "query " + query[0] + " of " + query[1] + ", " + query[2];
        checks.due(what, dueQuery(ranked, query), callQuery(x, query));
    }

    private static int[] query(List<Plan> ranked) {
        int kind = 2 + next(7);
        int first = switch (kind) {
            case 3, 4, 5 -> next(126) - 3;
            case 6 -> next(510) - 5;
            case 7 -> ranked.isEmpty() || next(3) == 0
                    ? next(3200) - 30 : ranked.get(next(ranked.size())).number();
            default -> nextIndex();
        };
        return new int[] {kind, first, nextIndex()};
    }

    /** Changes and queries in turn, up to the last call that the document speaks of. */
    private static void mixedRun(int style) {
        Model model = new Model();
        RankedPairs x = new RankedPairs();
        List<Plan> ranked = model.ranked();
        for (int calls = 0; calls < MOST_CALLS; calls++) {
            if (next(3) == 0) {
                int[] call = change(style);
                String what = "change " + call[0] + " of " + call[1] + ", " + call[2] + ", " + call[3];
                checks.due(what, model.change(call), callChange(x, call));
                ranked = model.ranked();
            } else {
                checkQuery(x, ranked, query(ranked));
            }
        }
    }
}
