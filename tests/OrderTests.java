/** Promises 26 to 36: what can be asked about orders. */
final class OrderTests {
    private static final String ORDERS = "canal 4;barge 0 3 20 9;barge 0 6 1 1;order 1 2 2 30;order 3 1 1 3;order 0 4 6 40;order 2 3 1 500;";

    private interface OrderCall {
        void on(NoodleCanal c, int order);
    }

    static void run() {
        numbers();
        states();
        urgency();
        Kit.test(27, "orderPlace of no order", () -> noOrder((c, o) -> c.orderPlace(o)));
        Kit.test(28, "bowls of no order", () -> noOrder((c, o) -> c.bowls(o)));
        Kit.test(29, "pullsLeft of no order", () -> noOrder((c, o) -> c.pullsLeft(o)));
        Kit.test(30, "deadline of no order", () -> noOrder((c, o) -> c.deadline(o)));
        Kit.test(31, "price of no order", () -> noOrder((c, o) -> c.price(o)));
        Kit.test(32, "bargeOf no order", () -> noOrder((c, o) -> c.bargeOf(o)));
        Kit.test(33, "isOpen of no order", () -> noOrder((c, o) -> c.isOpen(o)));
        Kit.test(34, "isReady of no order", () -> noOrder((c, o) -> c.isReady(o)));
        Kit.test(35, "isEaten of no order", () -> noOrder((c, o) -> c.isEaten(o)));
    }

    private static void noOrder(OrderCall call) {
        NoodleCanal c = Kit.canal(ORDERS);
        for (int o : new int[] {-1, 4, 5, 30, Integer.MIN_VALUE, Integer.MAX_VALUE}) Kit.indexError(() -> call.on(c, o));
        c.makeOrder(0, 1, 1, 1);
        call.on(c, 4);
        c.undo();
        Kit.indexError(() -> call.on(c, 4));
        Kit.indexError(() -> call.on(Kit.canal("canal 3;barge 0 1 0 0;"), 0));
    }

    private static void numbers() {
        Kit.test(26, "orderCount", () -> {
            NoodleCanal c = Kit.canal(ORDERS);
            Kit.same(c.orderCount(), 4);
            c.makeOrder(0, 1, 1, 1);
            Kit.same(c.orderCount(), 5);
            c.passMinutes(60);
            Kit.same(c.orderCount(), 5);
            c.undo();
            c.undo();
            Kit.same(c.orderCount(), 4);
            Kit.same(Kit.canal("canal 3;barge 0 1 0 0;").orderCount(), 0);
        });
        Kit.test(27, "orderPlace", () -> {
            NoodleCanal c = Kit.canal(ORDERS);
            int[] due = {1, 3, 0, 2};
            for (int i = 0; i < 4; i++) Kit.same(c.orderPlace(i), due[i]);
            c.passMinutes(3);
            Kit.same(c.orderPlace(1), 3);
        });
        Kit.test(28, "bowls", () -> {
            NoodleCanal c = Kit.canal(ORDERS);
            int[] due = {2, 1, 4, 3};
            for (int i = 0; i < 4; i++) Kit.same(c.bowls(i), due[i]);
        });
        Kit.test(30, "deadline", () -> {
            NoodleCanal c = Kit.canal(ORDERS);
            int[] due = {29, 2, 39, 499};
            for (int i = 0; i < 4; i++) Kit.same(c.deadline(i), due[i]);
            c.passMinutes(5);
            Kit.same(c.deadline(0), 29);
            c.makeOrder(0, 1, 1, 1);
            Kit.same(c.deadline(4), 5);
        });
        Kit.test(31, "price", () -> {
            NoodleCanal c = Kit.canal(ORDERS);
            int[] due = {10, 4, 36, 12};
            for (int i = 0; i < 4; i++) Kit.same(c.price(i), due[i]);
            c.take(0, 0);
            c.passMinutes(1);
            Kit.same(c.price(0), 10);
        });
    }

    private static void states() {
        Kit.test(29, "pullsLeft", () -> {
            NoodleCanal c = Kit.canal(ORDERS);
            Kit.same(c.pullsLeft(2), 6);
            c.take(0, 2);
            Kit.same(c.pullsLeft(2), 6);
            for (int left = 5; left > 0; left--) {
                c.passMinutes(1);
                Kit.same(c.pullsLeft(2), left);
            }
            c.drop(2);
            Kit.same(c.pullsLeft(2), 6);
            c.take(0, 0);
            c.passMinutes(2);
            Kit.same(c.isReady(0), true);
            Kit.same(c.pullsLeft(0), 0);
            c.sail(0, 1);
            c.passMinutes(1);
            Kit.same(c.isEaten(0), true);
            Kit.same(c.pullsLeft(0), 0);
        });
        Kit.test(29, "pullsLeft of expired orders", () -> {
            NoodleCanal c = Kit.canal("canal 3;barge 0 1 9 0;barge 0 1 9 0;order 1 1 5 3;order 1 1 5 3;order 1 1 2 3;order 1 1 4 3;");
            c.take(0, 0);
            c.take(0, 1);
            c.take(1, 2);
            c.passMinutes(3);
            Kit.same(c.expiredOrders(), 4);
            Kit.same(c.pullsLeft(0), 2);
            Kit.same(c.pullsLeft(1), 5);
            Kit.same(c.pullsLeft(2), 0);
            Kit.same(c.pullsLeft(3), 4);
            c.passMinutes(3);
            Kit.same(c.pullsLeft(0), 2);
        });
        Kit.test(32, "bargeOf", () -> {
            NoodleCanal c = Kit.canal(ORDERS);
            Kit.same(c.bargeOf(0), -1);
            c.take(1, 1);
            c.take(0, 0);
            Kit.same(c.bargeOf(0), 0);
            Kit.same(c.bargeOf(1), 1);
            c.passMinutes(2);
            Kit.same(c.isReady(0), true);
            Kit.same(c.bargeOf(0), 0);
            c.passMinutes(1);
            Kit.same(c.expiredOrders(), 1);
            Kit.same(c.bargeOf(1), -1);
            c.sail(0, 1);
            c.passMinutes(1);
            Kit.same(c.isEaten(0), true);
            Kit.same(c.bargeOf(0), -1);
            c.take(0, 2);
            c.drop(2);
            Kit.same(c.bargeOf(2), -1);
        });
        Kit.test(33, "isOpen", () -> {
            NoodleCanal c = Kit.canal(ORDERS);
            Kit.same(c.isOpen(0), true);
            c.take(0, 0);
            Kit.same(c.isOpen(0), false);
            Kit.same(c.isOpen(1), true);
            c.passMinutes(3);
            Kit.same(c.isOpen(0), false);
            Kit.same(c.isOpen(1), false);
            c.drop(0);
            Kit.same(c.isOpen(0), true);
        });
        Kit.test(34, "isReady", () -> {
            NoodleCanal c = Kit.canal(ORDERS);
            c.take(0, 0);
            Kit.same(c.isReady(0), false);
            c.passMinutes(1);
            Kit.same(c.isReady(0), false);
            c.passMinutes(1);
            Kit.same(c.isReady(0), true);
            Kit.same(c.isReady(1), false);
            c.sail(0, 1);
            c.passMinutes(1);
            Kit.same(c.isReady(0), false);
        });
        Kit.test(35, "isEaten", () -> {
            NoodleCanal c = Kit.canal(ORDERS);
            c.take(0, 0);
            c.passMinutes(2);
            Kit.same(c.isEaten(0), false);
            c.sail(0, 1);
            c.passMinutes(1);
            Kit.same(c.isEaten(0), true);
            Kit.same(c.isEaten(1), false);
            c.passMinutes(60);
            Kit.same(c.isEaten(0), true);
            Kit.same(c.isEaten(2), false);
        });
    }

    private static void urgency() {
        Kit.test(36, "mostUrgentOrder", () -> {
            NoodleCanal c = Kit.canal(ORDERS);
            Kit.same(c.mostUrgentOrder(), 1);
            c.take(0, 1);
            Kit.same(c.mostUrgentOrder(), 0);
            c.makeOrder(0, 1, 1, 30);
            Kit.same(c.mostUrgentOrder(), 0);
            c.makeOrder(0, 1, 1, 29);
            Kit.same(c.mostUrgentOrder(), 5);
            c.drop(1);
            Kit.same(c.mostUrgentOrder(), 1);
            c.passMinutes(3);
            Kit.same(c.mostUrgentOrder(), 5);
        });
        Kit.test(36, "mostUrgentOrder when none is open", () -> {
            Kit.same(Kit.canal("canal 3;barge 0 1 0 0;").mostUrgentOrder(), -1);
            NoodleCanal c = Kit.canal("canal 3;barge 0 1 0 0;order 0 1 1 1;order 0 1 1 1;");
            Kit.same(c.mostUrgentOrder(), 0);
            c.take(0, 0);
            Kit.same(c.mostUrgentOrder(), 1);
            c.passMinutes(1);
            Kit.same(c.mostUrgentOrder(), -1);
        });
    }
}
