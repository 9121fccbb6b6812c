import java.util.ArrayList;
import java.util.Arrays;
import java.util.List;
import java.util.function.Consumer;
import java.util.function.Supplier;
import java.util.function.ToIntFunction;

/** A test for each sentence of "What it is" and of "Terms" that names a boundary. */
public final class TermsBoundaryTest {
    private static final int MOST_CALLS = 512;
    private static final Checks checks = new Checks();

    private record Call(String name, ToIntFunction<RankedPairs> on) { }

    private record Answer(Call call, int due) { }

    private interface Filler {
        void call(RankedPairs x, int turn);
    }

    public static void main(String[] args) {
        lastPromisedCall();
        lastChangeThatCanBeSeen();
        workersAndTasksAre0To4();
        pricesAre0To99();
        barredOrPriced();
        plansGiveDifferentTasks();
        plansHaveNoBarredPair();
        noPlanAtAll();
        equallyDearByNumber();
        cheaperFirst();
        ranksOfTwoPlans();
        refusedCallsChangeNothing();
        questionsChangeNothing();
        checks.end("TermsBoundaryTest");
    }

    // "An object is used for at most 512 calls after it has been made."

    private static void lastPromisedCall() {
        List<Filler> fillers = List.of(
                (x, turn) -> x.price(0, 0, turn % 100),
                (x, turn) -> x.bar(0, 0),
                TermsBoundaryTest::ask,
                (x, turn) -> x.price(5, 0, 1),
                (x, turn) -> x.bar(-1, 4));
        for (int kind = 0; kind < fillers.size(); kind++) {
            for (Answer last : lastAnswers()) {
                RankedPairs x = new RankedPairs();
                fill(x, fillers.get(kind), MOST_CALLS - 2);
                x.price(0, 0, 10);
                String what = "call 512 after filler " + kind + ": " + last.call().name();
                checks.due(what, last.due(), last.call().on().applyAsInt(x));
            }
        }
        for (Answer last : lastAnswers()) {
            RankedPairs x = new RankedPairs();
            x.price(0, 0, 10);
            fill(x, TermsBoundaryTest::ask, MOST_CALLS - 2);
            String what = "call 512 after 510 questions: " + last.call().name();
            checks.due(what, last.due(), last.call().on().applyAsInt(x));
        }
    }

    private static void fill(RankedPairs x, Filler filler, int calls) {
        for (int turn = 0; turn < calls; turn++) {
            filler.call(x, turn);
        }
    }

    private static void ask(RankedPairs x, int turn) {
        switch (turn % 7) {
            case 0 -> x.plans();
            case 1 -> x.cost(turn % 130);
            case 2 -> x.plan(turn % 130);
            case 3 -> x.task(turn % 130, turn % 6);
            case 4 -> x.within(turn);
            case 5 -> x.rank(turn);
            default -> x.cheapestWith(turn % 5, turn % 6);
        }
    }

    /** What each call answers while the pair (0, 0) has the price 10 and all else is free. */
    private static List<Answer> lastAnswers() {
        return List.of(
                answer("price(4, 4, 99)", x -> x.price(4, 4, 99), 0),
                answer("price(4, 4, 100)", x -> x.price(4, 4, 100), -1),
                answer("bar(4, 4)", x -> x.bar(4, 4), 0),
                answer("bar(4, 5)", x -> x.bar(4, 5), -1),
                answer("plans()", x -> x.plans(), 120),
                answer("cost(95)", x -> x.cost(95), 0),
                answer("cost(96)", x -> x.cost(96), 10),
                answer("cost(120)", x -> x.cost(120), -1),
                answer("plan(0)", x -> x.plan(0), 694),
                answer("plan(96)", x -> x.plan(96), Situations.STRAIGHT),
                answer("task(96, 3)", x -> x.task(96, 3), 3),
                answer("within(9)", x -> x.within(9), 96),
                answer("within(10)", x -> x.within(10), 120),
                answer("rank(194)", x -> x.rank(Situations.STRAIGHT), 96),
                answer("cheapestWith(0, 0)", x -> x.cheapestWith(0, 0), 10));
    }

    private static Answer answer(String name, ToIntFunction<RankedPairs> on, int due) {
        return new Answer(new Call(name, on), due);
    }

    private static void lastChangeThatCanBeSeen() {
        RankedPairs barred = new RankedPairs();
        fill(barred, TermsBoundaryTest::ask, MOST_CALLS - 2);
        checks.due("call 511: bar", 0, barred.bar(1, 2));
        checks.due("call 512 sees the bar", 96, barred.plans());
        RankedPairs refused = new RankedPairs();
        fill(refused, TermsBoundaryTest::ask, MOST_CALLS - 2);
        checks.due("call 511: refused", -1, refused.price(1, 2, 100));
        checks.due("call 512 sees no change", 120, refused.within(0));
    }

    // "WORKERS and TASKS are 0 to 4."

    private static void workersAndTasksAre0To4() {
        for (int worker = 0; worker < 5; worker++) {
            for (int task = 0; task < 5; task++) {
                takesPair(worker, task);
            }
            for (int off : Situations.OFF_SIDE) {
                takesNoSuchPair(off, worker);
                takesNoSuchPair(worker, off);
            }
        }
        for (int off : Situations.OFF_SIDE) {
            for (int other : Situations.OFF_SIDE) {
                takesNoSuchPair(off, other);
            }
            checks.due("task(0, " + off + ")", -1, new RankedPairs().task(0, off));
            checks.due("task(119, " + off + ")", -1, new RankedPairs().task(119, off));
        }
    }

    private static void takesPair(int worker, int task) {
        String pair = "(" + worker + ", " + task + ")";
        RankedPairs x = new RankedPairs();
        checks.due("price" + pair, 0, x.price(worker, task, 7));
        checks.due("cheapestWith" + pair, 7, x.cheapestWith(worker, task));
        checks.due("no other pair than " + pair, 96, x.within(6));
        checks.due("worker of " + pair, task, x.task(119, worker));
        checks.due("bar" + pair, 0, x.bar(worker, task));
        checks.due("barred " + pair, -1, x.cheapestWith(worker, task));
    }

    private static void takesNoSuchPair(int worker, int task) {
        String pair = "(" + worker + ", " + task + ")";
        RankedPairs x = new RankedPairs();
        checks.due("price" + pair, -1, x.price(worker, task, 7));
        checks.due("bar" + pair, -1, x.bar(worker, task));
        checks.due("cheapestWith" + pair, -1, x.cheapestWith(worker, task));
        checks.due("plans after " + pair, 120, x.plans());
        checks.due("free plans after " + pair, 120, x.within(0));
    }

    // "Each pair of a worker and a task has a PRICE from 0 to 99 (0 at the start) or is
    // BARRED (none at the start)."

    private static void pricesAre0To99() {
        RankedPairs x = new RankedPairs();
        for (int price = 0; price < 100; price++) {
            checks.due("price " + price, 0, x.price(3, 0, price));
            checks.due("price " + price + " is kept", price, x.cheapestWith(3, 0));
        }
        for (int price : Situations.OFF_PRICE) {
            checks.due("price " + price, -1, x.price(3, 0, price));
            checks.due("not price " + price, 99, x.cheapestWith(3, 0));
        }
    }

    private static void barredOrPriced() {
        for (int pair = 0; pair < 25; pair++) {
            int worker = pair / 5;
            int task = pair % 5;
            RankedPairs x = new RankedPairs();
            checks.due("price at the start", 0, x.cheapestWith(worker, task));
            x.price(worker, task, 99);
            x.bar(worker, task);
            checks.due("no price while barred", -1, x.cheapestWith(worker, task));
            checks.due("no plan with its price", 96, x.within(Situations.MOST));
            x.price(worker, task, 0);
            checks.due("no bar while priced", 120, x.within(0));
        }
    }

    // "A PLAN gives every worker a task, different workers different tasks, no barred pair."

    private static void plansGiveDifferentTasks() {
        RankedPairs x = null;
        int found = 0;
        for (int number = 0; number < 3125; number++) {
            // A new object before the calls on the old one are used up.
            if (number % 500 == 0) {
                x = new RankedPairs();
            }
            boolean isPlan = hasFiveTasks(number);
            found += isPlan ? 1 : 0;
            int due = isPlan ? found - 1 : -1;
            checks.due("rank(" + number + ")", due, x.rank(number));
        }
        checks.due("numbers of plans", found, new RankedPairs().plans());
    }

    private static boolean hasFiveTasks(int number) {
        return Integer.toString(3125 + number, 5).substring(1).chars().distinct().count() == 5;
    }

    private static void plansHaveNoBarredPair() {
        for (int pair = 0; pair < 25; pair++) {
            RankedPairs x = new RankedPairs();
            x.bar(pair / 5, pair % 5);
            checks.due("plans without a pair", 96, x.plans());
            for (int rank = 0; rank < 96; rank++) {
                int task = x.task(rank, pair / 5);
                checks.dueTrue("plan without pair " + pair, task != pair % 5 && task != -1);
            }
            checks.due("no plan behind them", -1, x.task(96, pair / 5));
        }
        checks.due("one plan", 1, Situations.onePlan().plans());
        checks.due("the one plan", Situations.ONLY, Situations.onePlan().plan(0));
    }

    private static void noPlanAtAll() {
        int[][] emptied = {
            {0, 1, 2, 3, 4}, {20, 21, 22, 23, 24},       // a worker without a task
            {0, 5, 10, 15, 20}, {4, 9, 14, 19, 24},      // a task without a worker
            {1, 2, 3, 4, 6, 7, 8, 9},                    // two workers for one task
            {0, 1, 2, 10, 11, 12, 20, 21, 22},           // three workers for two tasks
        };
        for (int[] pairs : emptied) {
            RankedPairs x = new RankedPairs();
            for (int i = 0; i < pairs.length - 1; i++) {
                x.bar(pairs[i] / 5, pairs[i] % 5);
            }
            int last = pairs[pairs.length - 1];
            checks.dueTrue("plans before the last bar", x.plans() > 0);
            x.bar(last / 5, last % 5);
            checks.due("plans after it", 0, x.plans());
            checks.due("plan(0) after it", -1, x.plan(0));
            checks.due("cost(0) after it", -1, x.cost(0));
            x.price(last / 5, last % 5, 6);
            checks.due("cost(0) after it is undone", 6, x.cost(0));
        }
    }

    // "Plans are RANKED from 0 on: the cheaper ones first, of equally dear ones those with
    // the lesser number."

    private static void equallyDearByNumber() {
        for (int price : new int[] {0, 1, 99}) {
            RankedPairs x = Situations.allAt(price);
            checks.due("least number", Situations.STRAIGHT, x.plan(0));
            for (int rank = 1; rank < 120; rank++) {
                checks.dueTrue("lesser number first", x.plan(rank - 1) < x.plan(rank));
                checks.due("equally dear", 5 * price, x.cost(rank));
            }
            checks.due("greatest number", Situations.REVERSED, x.plan(119));
        }
    }

    private static void cheaperFirst() {
        RankedPairs x = Situations.allAt(99);
        x.price(0, 4, 98);
        checks.due("first of the cheaper by 1", 2538, x.plan(0));
        checks.due("last of the cheaper by 1", Situations.REVERSED, x.plan(23));
        checks.due("price of the cheaper", 494, x.cost(23));
        checks.due("first of the dearer by 1", Situations.STRAIGHT, x.plan(24));
        checks.due("price of the dearer", 495, x.cost(24));
        checks.due("last of the dearer by 1", 2430, x.plan(119));
        RankedPairs falling = new RankedPairs();
        for (int task = 0; task < 5; task++) {
            falling.price(4, task, 4 - task);
        }
        for (int rank = 0; rank < 120; rank++) {
            checks.due("five prices, task at rank " + rank, 4 - rank / 24, falling.task(rank, 4));
            boolean first = rank % 24 == 0;
            checks.dueTrue("five prices, by number",
                    first || falling.plan(rank - 1) < falling.plan(rank));
        }
    }

    private static void ranksOfTwoPlans() {
        int greater = 694;
        RankedPairs x = new RankedPairs();
        for (int pair = 0; pair < 25; pair++) {
            boolean straight = pair / 5 == pair % 5;
            boolean crossed = pair == 1 || pair == 5;
            if (!straight && !crossed) {
                x.bar(pair / 5, pair % 5);
            }
        }
        x.price(0, 0, 2);
        x.price(1, 1, 3);
        x.price(0, 1, 5);
        checks.due("two plans", 2, x.plans());
        checks.due("as dear, lesser number", 0, x.rank(Situations.STRAIGHT));
        checks.due("as dear, greater number", 1, x.rank(greater));
        x.price(0, 1, 4);
        checks.due("cheaper by 1, greater number", 0, x.rank(greater));
        checks.due("dearer by 1, lesser number", 1, x.rank(Situations.STRAIGHT));
        x.price(0, 1, 6);
        checks.due("cheaper by 1, lesser number", 0, x.rank(Situations.STRAIGHT));
        checks.due("dearer by 1, greater number", 1, x.rank(greater));
    }

    // "Workers and tasks out of range are refused: the call answers -1 and changes nothing."

    private static void refusedCallsChangeNothing() {
        for (Call call : refusedCalls()) {
            changesNothing(call);
            checks.due(call.name(), -1, call.on().applyAsInt(Situations.mixed()));
            checks.due(call.name() + " without plans", -1,
                    call.on().applyAsInt(Situations.withoutPlans()));
        }
    }

    private static List<Call> refusedCalls() {
        List<Call> calls = new ArrayList<>();
        for (int off : Situations.OFF_SIDE) {
            for (int other : new int[] {0, 1, 2, 3, 4, -1, 5, off}) {
                addPairCalls(calls, off, other);
                addPairCalls(calls, other, off);
            }
            calls.add(new Call("task(0, " + off + ")", x -> x.task(0, off)));
        }
        for (int price : Situations.OFF_PRICE) {
            for (int pair : new int[] {0, 7, 12, 24}) {
                String name = "price(pair " + pair + ", " + price + ")";
                calls.add(new Call(name, x -> x.price(pair / 5, pair % 5, price)));
            }
        }
        return calls;
    }

    private static void addPairCalls(List<Call> calls, int worker, int task) {
        if (worker >= 0 && worker < 5 && task >= 0 && task < 5) {
            return;
        }
        String pair = "(" + worker + ", " + task + ")";
        calls.add(new Call("price" + pair, x -> x.price(worker, task, 50)));
        calls.add(new Call("bar" + pair, x -> x.bar(worker, task)));
        calls.add(new Call("cheapestWith" + pair, x -> x.cheapestWith(worker, task)));
    }

    private static void changesNothing(Call call) {
        List<Supplier<RankedPairs>> situations = List.of(RankedPairs::new, Situations::mixed,
                Situations::onePlan, Situations::withoutPlans);
        for (int i = 0; i < situations.size(); i++) {
            String what = call.name() + " changes nothing in situation " + i;
            staysLikeTwin(what, call, situations.get(i), x -> { });
            // What is wrong inside may come to light only with the next change, or for
            // a pair that is in no plan only when there are plans with it.
            staysLikeTwin(what + ", seen after a price", call, situations.get(i),
                    x -> x.price(4, 0, 33));
            staysLikeTwin(what + ", seen without bars", call, situations.get(i),
                    TermsBoundaryTest::openRowAndColumn);
        }
    }

    private static void openRowAndColumn(RankedPairs x) {
        for (int i = 0; i < 5; i++) {
            x.price(2, i, 0);
            x.price(i, 2, 0);
        }
    }

    private static void staysLikeTwin(String what, Call call, Supplier<RankedPairs> situation,
            Consumer<RankedPairs> later) {
        RankedPairs called = situation.get();
        call.on().applyAsInt(called);
        later.accept(called);
        RankedPairs twin = situation.get();
        later.accept(twin);
        checks.dueTrue(what, Arrays.equals(everything(twin), everything(called)));
    }

    /** All that the answers tell of the state: 270 calls. */
    private static int[] everything(RankedPairs x) {
        int[] answers = new int[270];
        int count = 0;
        answers[count++] = x.plans();
        for (int rank = -1; rank <= 120; rank++) {
            answers[count++] = x.cost(rank);
            answers[count++] = x.plan(rank);
        }
        for (int pair = 0; pair < 25; pair++) {
            answers[count++] = x.cheapestWith(pair / 5, pair % 5);
        }
        return answers;
    }

    private static void questionsChangeNothing() {
        List<Call> calls = new ArrayList<>();
        calls.add(new Call("plans()", x -> x.plans()));
        int[] values = {Situations.LEAST, -1, 0, 1, 4, 5, 60, 119, 120, Situations.STRAIGHT,
            Situations.REVERSED, 3125, Situations.MOST};
        for (int value : values) {
            calls.add(new Call("cost(" + value + ")", x -> x.cost(value)));
            calls.add(new Call("plan(" + value + ")", x -> x.plan(value)));
            calls.add(new Call("task(" + value + ", 4)", x -> x.task(value, 4)));
            calls.add(new Call("within(" + value + ")", x -> x.within(value)));
            calls.add(new Call("rank(" + value + ")", x -> x.rank(value)));
            calls.add(new Call("cheapestWith(0, " + value + ")", x -> x.cheapestWith(0, value)));
        }
        for (Call call : calls) {
            changesNothing(call);
        }
    }
}
