/** Sentences of "Terms" on orders, and promises 26 to 36. */
final class OrderEdgeTests {
    private static final String NONE = "canal 3;barge 0 1 0 0;";
    private static final String THIRTY = NONE + "order 0 1 1 9;".repeat(30);
    /** Order 0 is ready after two minutes, eaten a minute after sailing to 1; order 1 expires in the second minute; orders 2 and 3 stay. */
    private static final String EACH_STATE = "canal 3;barge 0 1 9 9;order 1 2 2 9;order 1 3 4 2;order 2 1 3 99;order 2 4 6 99;";

    private interface OrderCall {
        void on(NoodleCanal c, int order);
    }

    static void run() {
        terms();
        states();
        numbers();
        whoAndWhich();
        noOrder(27, (c, o) -> c.orderPlace(o));
        noOrder(28, (c, o) -> c.bowls(o));
        noOrder(29, (c, o) -> c.pullsLeft(o));
        noOrder(30, (c, o) -> c.deadline(o));
        noOrder(31, (c, o) -> c.price(o));
        noOrder(32, (c, o) -> c.bargeOf(o));
        noOrder(33, (c, o) -> c.isOpen(o));
        noOrder(34, (c, o) -> c.isReady(o));
        noOrder(35, (c, o) -> c.isEaten(o));
    }

    private static void noOrder(int promise, OrderCall call) {
        Document.edge(promise, "Throws `IndexOutOfBoundsException` if there is no such order", () -> {
            Kit.indexRefused(() -> Kit.busy(Kit.canal(NONE)), c -> call.on(c, 0), c -> call.on(c, -1));
            Kit.Made four = () -> Kit.busy(Kit.canal(EACH_STATE));
            call.on(four.get(), 0);
            call.on(four.get(), 3);
            Kit.indexRefused(four, c -> call.on(c, -1), c -> call.on(c, 4), c -> call.on(c, 5));
            Kit.indexRefused(four, c -> call.on(c, Integer.MIN_VALUE), c -> call.on(c, Integer.MAX_VALUE));
            call.on(Kit.canal(THIRTY), 29);
            Kit.indexRefused(() -> Kit.canal(THIRTY), c -> call.on(c, 30), c -> call.on(c, 31));
            NoodleCanal undone = Kit.canal(NONE);
            undone.makeOrder(0, 1, 1, 1);
            call.on(undone, 0);
            undone.undo();
            Kit.indexError(() -> call.on(undone, 0));
        });
    }

    private static void terms() {
        Document.edge(0, "Orders are numbered from 0 in the order in which they were made; at most 30 are made.", () -> {
            NoodleCanal c = Kit.canal("canal 3;barge 0 1 0 0;order 2 1 1 9;order 1 1 1 9;");
            for (int order = 2; order < 30; order++) Kit.same(c.makeOrder(order % 3, 1, 1, 9), order);
            Kit.same(c.orderPlace(0), 2);
            Kit.same(c.orderPlace(1), 1);
            for (int order = 2; order < 30; order++) Kit.same(c.orderPlace(order), order % 3);
            Kit.stateError(() -> c.makeOrder(0, 1, 1, 9));
            Kit.same("a 31st in a script", Kit.script(c, "order 0 1 1 9;"), 0);
            Kit.same(c.orderCount(), 30);
            Kit.loadFails(THIRTY + "order 0 1 1 9;", 4, THIRTY.length());
        });
        Document.edge(0, "An order has a place, 1 to 4 bowls, 1 to 6 pulls, and a deadline, which is the number of a minute.", () -> {
            Kit.loadFails(NONE + "order 0 0 1 1;", 2, 30);
            Kit.loadFails(NONE + "order 0 5 1 1;", 2, 30);
            Kit.loadFails(NONE + "order 0 1 0 1;", 2, 32);
            Kit.loadFails(NONE + "order 0 1 7 1;", 2, 32);
            NoodleCanal c = Kit.canal(NONE + "order 0 1 1 1;order 2 4 6 500;");
            Kit.same(c.orderPlace(0) * 1000 + c.bowls(0) * 100 + c.pullsLeft(0) * 10 + c.deadline(0), 110);
            Kit.same(c.orderPlace(1) * 100 + c.bowls(1) * 10 + c.pullsLeft(1), 246);
            Kit.same(c.deadline(1), 499);
        });
        Document.edge(0, "An order is open, taken, ready, eaten or expired.", () -> {
            NoodleCanal c = Kit.canal(EACH_STATE);
            Kit.same(flags(c, 0), "open");
            Kit.same(flags(c, 1), "open");
            c.take(0, 0);
            Kit.same(flags(c, 0), "");
            c.passMinutes(2);
            Kit.same(flags(c, 0), "ready");
            Kit.same("expired", flags(c, 1), "");
            c.sail(0, 1);
            c.passMinutes(1);
            Kit.same(flags(c, 0), "eaten");
            c.passMinutes(60);
            Kit.same("for ever", flags(c, 0), "eaten");
            Kit.same("for ever expired", flags(c, 1), "");
            Kit.same(c.expiredOrders(), 1);
        });
        Document.edge(0, "A taken or ready order belongs to a barge.", () -> {
            NoodleCanal c = Kit.canal(EACH_STATE);
            c.take(0, 0);
            Kit.same("taken", c.bargeOf(0), 0);
            c.passMinutes(2);
            Kit.same(flags(c, 0), "ready");
            Kit.same("ready", c.bargeOf(0), 0);
        });
        Document.edge(0, "The orders of a barge that are taken form its queue, in the order in which they were taken", () -> {
            NoodleCanal c = Kit.canal(EACH_STATE);
            for (int order : new int[] {3, 0, 2, 1}) c.take(0, order);
            Kit.same(queue(c), "3021");
            c.drop(3);
            c.take(0, 3);
            Kit.same("the first one last", queue(c), "0213");
            c.drop(2);
            Kit.same("one of the middle dropped", queue(c), "013");
            c.passMinutes(2);
            Kit.same("the first one ready, the second expired", queue(c), "3");
        });
        Document.edge(0, "a barge has at most 4 orders that are taken or ready", () -> {
            String five = "canal 3;barge 0 1 9 9;barge 0 1 9 9;" + "order 1 1 1 9;".repeat(6);
            for (int minutes = 0; minutes <= 5; minutes++) {
                int ready = Math.min(minutes, 4);
                NoodleCanal c = Kit.canal(five);
                for (int order = 0; order < 4; order++) c.take(0, order);
                if (minutes > 0) c.passMinutes(minutes);
                Kit.same(c.readyCount(0) * 10 + c.queueLength(0), ready * 10 + 4 - ready);
                Kit.stateError(() -> c.take(0, 4));
                Kit.same("another barge", c.take(1, 5), 1);
                c.drop(2);
                Kit.same("one dropped", c.readyCount(0) + c.queueLength(0), 3);
                c.take(0, 4);
                Kit.stateError(() -> c.take(0, 2));
            }
        });
        Document.edge(0, "The price of an order is the number of bowls times the sum of 3 and the number of pulls, in coins.", () -> {
            NoodleCanal c = Kit.canal(NONE);
            for (int bowls = 1; bowls <= 4; bowls++) {
                for (int pulls = 1; pulls <= 6; pulls++) {
                    int order = c.makeOrder(0, bowls, pulls, 9);
                    Kit.same(bowls + " bowls, " + pulls + " pulls", c.price(order), bowls * (3 + pulls));
                }
            }
        });
    }

    private static String flags(NoodleCanal c, int order) {
        return (c.isOpen(order) ? "open" : "") + (c.isReady(order) ? "ready" : "") + (c.isEaten(order) ? "eaten" : "");
    }

    private static String queue(NoodleCanal c) {
        StringBuilder s = new StringBuilder();
        for (int i = 0; i < c.queueLength(0); i++) s.append(c.queuedOrder(0, i));
        return s.toString();
    }

    private static void states() {
        Document.edge(29, "Returns all its pulls if it is not begun", () -> {
            NoodleCanal c = Kit.canal("canal 3;barge 0 1 3 9;order 1 4 6 99;order 1 1 1 99;");
            Kit.same("open", c.pullsLeft(0), 6);
            Kit.same("open, the fewest", c.pullsLeft(1), 1);
            c.take(0, 0);
            c.take(0, 1);
            c.passMinutes(5);
            Kit.same("taken, without flour", c.pullsLeft(0), 6);
            Kit.same("taken, behind the first", c.pullsLeft(1), 1);
            c.buyFlour(0, 9);
            c.passMinutes(1);
            Kit.same("begun", c.pullsLeft(0), 5);
            c.drop(0);
            Kit.same("dropped", c.pullsLeft(0), 6);
        });
        Document.edge(29, "0 if it is ready or eaten", () -> {
            NoodleCanal c = Kit.canal(EACH_STATE);
            c.take(0, 0);
            c.passMinutes(1);
            Kit.same(c.pullsLeft(0), 1);
            c.passMinutes(1);
            Kit.same(flags(c, 0), "ready");
            Kit.same(c.pullsLeft(0), 0);
            c.sail(0, 1);
            c.passMinutes(1);
            Kit.same(flags(c, 0), "eaten");
            Kit.same(c.pullsLeft(0), 0);
            c.passMinutes(60);
            Kit.same(c.pullsLeft(0), 0);
        });
        Document.edge(29, "if it is expired, as many as were left then", () -> {
            NoodleCanal c = Kit.canal("canal 3;barge 0 1 9 0;barge 0 1 9 0;order 1 1 6 4;order 1 1 4 4;order 1 1 6 4;order 1 1 5 4;");
            c.take(0, 0);
            c.take(1, 1);
            c.take(1, 2);
            c.passMinutes(4);
            Kit.same(c.expiredOrders(), 4);
            int[] due = {2, 0, 6, 5};
            c.passMinutes(4);
            for (int order = 0; order < 4; order++) Kit.same("order " + order, c.pullsLeft(order), due[order]);
        });
        Document.edge(32, "Returns the number of the barge; -1 if the order is open, eaten or expired.", () -> {
            NoodleCanal c = Kit.canal(EACH_STATE);
            Kit.same("open", c.bargeOf(0), -1);
            c.take(0, 0);
            c.take(0, 1);
            Kit.same("taken", c.bargeOf(1), 0);
            c.passMinutes(2);
            Kit.same("ready", c.bargeOf(0), 0);
            Kit.same("expired", c.bargeOf(1), -1);
            c.sail(0, 1);
            c.passMinutes(1);
            Kit.same("eaten", c.bargeOf(0), -1);
            c.take(0, 2);
            c.drop(2);
            Kit.same("open again", c.bargeOf(2), -1);
            NoodleCanal five = Kit.canal("canal 3;" + "barge 0 1 0 0;".repeat(5) + "order 0 1 1 9;");
            five.take(4, 0);
            Kit.same("the last barge", five.bargeOf(0), 4);
        });
        Document.edge(33, "Returns whether it is open.", () -> {
            NoodleCanal c = inEachState();
            for (int order = 0; order < 5; order++) Kit.same("order " + order, c.isOpen(order), order == 0);
        });
        Document.edge(34, "Returns whether it is ready.", () -> {
            NoodleCanal c = inEachState();
            for (int order = 0; order < 5; order++) Kit.same("order " + order, c.isReady(order), order == 2);
        });
        Document.edge(35, "Returns whether it is eaten.", () -> {
            NoodleCanal c = inEachState();
            for (int order = 0; order < 5; order++) Kit.same("order " + order, c.isEaten(order), order == 3);
        });
    }

    /** Orders 0 to 4 are open, taken, ready, eaten and expired. */
    private static NoodleCanal inEachState() {
        NoodleCanal c = Kit.canal("canal 3;barge 0 1 9 9;order 1 1 1 9;order 1 1 6 9;order 1 1 1 9;order 0 1 1 9;order 1 1 1 2;");
        c.take(0, 3);
        c.take(0, 2);
        c.take(0, 1);
        c.passMinutes(3);
        Kit.same(c.pullsLeft(1), 5);
        Kit.same(c.eatenBowls() * 10 + c.expiredOrders(), 11);
        return c;
    }

    private static void numbers() {
        Document.edge(26, "Returns 0 to 30.", () -> {
            NoodleCanal c = Kit.canal(NONE);
            for (int order = 0; order < 30; order++) {
                Kit.same(c.orderCount(), order);
                c.makeOrder(0, 1, 1, 1);
            }
            Kit.same(c.orderCount(), 30);
            c.passMinutes(1);
            Kit.same("all expired", c.orderCount(), 30);
            Kit.same(Kit.canal(THIRTY).orderCount(), 30);
        });
        Document.edge(27, "Returns the number of the place.", () -> {
            NoodleCanal c = Kit.canal("canal 16;barge 0 1 0 0;order 0 1 1 1;order 15 1 1 9;");
            c.passMinutes(1);
            Kit.same("expired", c.orderPlace(0), 0);
            Kit.same("open", c.orderPlace(1), 15);
        });
        Document.edge(28, "Returns 1 to 4.", () -> {
            NoodleCanal c = Kit.canal(NONE + "order 0 1 6 9;order 0 4 1 9;");
            Kit.same(c.bowls(0), 1);
            Kit.same(c.bowls(1), 4);
            for (int bowls = 1; bowls <= 4; bowls++) Kit.same(c.bowls(c.makeOrder(0, bowls, 1, 1)), bowls);
        });
        Document.edge(30, "Returns the number of the minute.", () -> {
            NoodleCanal c = Kit.late(NONE + "order 0 1 1 1;order 0 1 1 500;", 1);
            Kit.same(c.deadline(0), 0);
            Kit.same(c.deadline(1), 499);
            Kit.same("the last minute", c.deadline(c.makeOrder(0, 1, 1, 1)), 9999);
            Kit.same("behind the last minute", c.deadline(c.makeOrder(0, 1, 1, 2)), 10000);
        });
        Document.edge(31, "Returns the price in coins.", () -> {
            NoodleCanal c = Kit.canal(NONE + "order 0 1 1 1;order 0 4 6 9;");
            c.passMinutes(1);
            Kit.same("the least one, expired", c.price(0), 4);
            Kit.same("the greatest one", c.price(1), 36);
        });
    }

    private static void whoAndWhich() {
        Document.edge(36, "Returns the number of the open order with the earliest deadline", () -> {
            NoodleCanal c = Kit.canal(NONE + "order 0 1 1 5;order 0 1 1 4;order 0 1 1 3;order 0 1 1 6;");
            Kit.same(c.mostUrgentOrder(), 2);
            c.take(0, 2);
            Kit.same("without a taken one", c.mostUrgentOrder(), 1);
            c.drop(2);
            Kit.same("with a dropped one", c.mostUrgentOrder(), 2);
            c.passMinutes(3);
            Kit.same("without an expired one", c.mostUrgentOrder(), 1);
            c.makeOrder(0, 1, 1, 1);
            Kit.same("equal", c.mostUrgentOrder(), 1);
        });
        Document.edge(36, "the smallest number if several are equal", () -> {
            NoodleCanal c = Kit.canal(NONE + "order 0 1 1 6;order 0 1 1 5;order 0 1 1 5;order 0 1 1 5;");
            Kit.same(c.mostUrgentOrder(), 1);
            c.take(0, 1);
            Kit.same(c.mostUrgentOrder(), 2);
            c.drop(1);
            Kit.same(c.mostUrgentOrder(), 1);
            Kit.same(Kit.canal(THIRTY).mostUrgentOrder(), 0);
        });
        Document.edge(36, "-1 if none is open", () -> {
            Kit.same("no orders", Kit.canal(NONE).mostUrgentOrder(), -1);
            NoodleCanal c = Kit.canal("canal 3;barge 0 1 9 9;order 0 1 1 9;order 1 1 1 9;order 1 1 6 9;order 0 1 1 3;");
            for (int order = 0; order < 3; order++) c.take(0, order);
            c.passMinutes(2);
            Kit.same("one open", c.mostUrgentOrder(), 3);
            c.passMinutes(1);
            Kit.same("eaten, ready, taken and expired", c.mostUrgentOrder(), -1);
            Kit.same(c.eatenBowls() + c.readyCount(0) + c.queueLength(0) + c.expiredOrders(), 4);
        });
    }
}
