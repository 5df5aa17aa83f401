/** Promise 56: what happens when minutes pass, and in which order. */
final class MinuteTests {
    static void run() {
        arguments();
        moving();
        pulling();
        serving();
        expiring();
    }

    private static void arguments() {
        Kit.test(56, "passMinutes answers the orders eaten", () -> {
            NoodleCanal c = Kit.canal("canal 3;barge 0 1 9 9;order 0 1 1 9;order 0 1 2 9;order 0 1 1 9;");
            for (int i = 0; i < 3; i++) c.take(0, i);
            Kit.same(c.passMinutes(1), 1);
            Kit.same(c.passMinutes(1), 0);
            Kit.same(c.passMinutes(60), 2);
            Kit.same(c.passMinutes(60), 0);
            Kit.same(c.minute(), 122);
            Kit.same(c.undoableCount(), 7);
        });
        Kit.test(56, "minutes out of range", () -> {
            NoodleCanal c = new NoodleCanal();
            for (int n : new int[] {0, -1, 61, 10000, Integer.MIN_VALUE, Integer.MAX_VALUE}) Kit.argumentError(() -> c.passMinutes(n));
            Kit.refused(c, "IllegalArgumentException", () -> c.passMinutes(61));
        });
        Kit.test(56, "no minute beyond 9999", () -> {
            NoodleCanal c = Kit.late("canal 3;barge 0 1 0 0;order 0 1 1 500;", 2);
            Kit.refused(c, "IllegalStateException", () -> c.passMinutes(3));
            Kit.stateError(() -> c.passMinutes(60));
            Kit.argumentError(() -> c.passMinutes(61));
            Kit.same(c.passMinutes(2), 0);
            Kit.stateError(() -> c.passMinutes(1));
            Kit.argumentError(() -> c.passMinutes(0));
            Kit.same(c.minute(), 10000);
            c.undo();
            Kit.same(c.minute(), 9998);
        });
    }

    /** Where the barges are after each minute, and their time in a lock behind a colon. */
    private static void travel(NoodleCanal c, String... due) {
        for (String line : due) {
            c.passMinutes(1);
            StringBuilder s = new StringBuilder();
            for (int b = 0; b < c.bargeCount(); b++) {
                s.append(b > 0 ? " " : "").append(c.placeOf(b));
                if (c.timeInLock(b) > 0) s.append(':').append(c.timeInLock(b));
            }
            Kit.same("minute " + c.minute(), s.toString(), line);
        }
    }

    private static void moving() {
        Kit.test(56, "one section a minute without locks", () -> {
            NoodleCanal c = Kit.canal("canal 5;barge 0 1 0 0;barge 4 1 0 0;");
            c.sail(0, 3);
            c.sail(1, 0);
            travel(c, "1 3", "2 2", "3 1", "3 0", "3 0");
        });
        Kit.test(56, "through locks", () -> {
            NoodleCanal c = Kit.canal("canal 4;lock 0 1;lock 1 3;barge 0 1 0 0;");
            c.sail(0, 3);
            travel(c, "0:1", "1", "1:3", "1:2", "1:1", "2", "3", "3");
            c.sail(0, 0);
            travel(c, "2", "2:3", "2:2", "2:1", "1", "1:1", "0", "0");
        });
        Kit.test(56, "a later barge enters in the minute in which an earlier one leaves", () -> {
            NoodleCanal c = Kit.canal("canal 3;lock 0 2;barge 0 1 0 0;barge 0 1 0 0;barge 1 1 0 0;");
            c.sail(0, 1);
            c.sail(1, 1);
            c.sail(2, 0);
            travel(c, "0:2 0 1", "0:1 0 1", "1 0:2 1", "1 0:1 1", "1 1 1:2", "1 1 1:1", "1 1 0");
        });
        Kit.test(56, "an earlier barge waits one minute more for a later one", () -> {
            NoodleCanal c = Kit.canal("canal 3;lock 0 2;barge 1 1 0 0;barge 0 1 0 0;");
            c.sail(1, 1);
            c.passMinutes(1);
            c.sail(0, 0);
            travel(c, "1 0:1", "1 1", "1:2 1", "1:1 1", "0 1");
        });
        Kit.test(56, "two barges in two locks", () -> {
            NoodleCanal c = Kit.canal("canal 4;lock 0 2;lock 2 1;barge 0 1 0 0;barge 3 1 0 0;");
            c.sail(0, 3);
            c.sail(1, 0);
            travel(c, "0:2 3:1", "0:1 2", "1 1", "2 1:2", "2:1 1:1", "3 0");
        });
        Kit.test(56, "barges without another target stay", () -> {
            NoodleCanal c = Kit.canal("canal 3;lock 0 2;barge 0 1 0 0;barge 1 1 0 0;");
            travel(c, "0 1", "0 1");
        });
    }

    private static void pulling() {
        Kit.test(56, "one pull a minute, for the first order of the queue", () -> {
            NoodleCanal c = Kit.canal("canal 3;barge 0 1 9 0;order 1 2 2 99;order 1 1 1 99;");
            c.take(0, 0);
            c.take(0, 1);
            c.passMinutes(1);
            Kit.same(c.pullsLeft(0) * 10 + c.pullsLeft(1), 11);
            Kit.same(c.flour(0), 7);
            c.passMinutes(1);
            Kit.same(c.pullsLeft(0) * 10 + c.pullsLeft(1), 1);
            Kit.same(c.flour(0), 7);
            c.passMinutes(1);
            Kit.same(c.pullsLeft(0) * 10 + c.pullsLeft(1), 0);
            Kit.same(c.flour(0), 6);
            Kit.same(c.readyCount(0), 2);
        });
        Kit.test(56, "without enough flour the whole queue waits", () -> {
            NoodleCanal c = Kit.canal("canal 3;barge 0 1 2 0;order 1 3 2 99;order 1 1 1 99;");
            c.take(0, 0);
            c.take(0, 1);
            c.passMinutes(5);
            Kit.same(c.flour(0), 2);
            Kit.same(c.pullsLeft(0) * 10 + c.pullsLeft(1), 21);
            c.buyFlour(0, 1);
            c.passMinutes(1);
            Kit.same(c.flour(0), 0);
            Kit.same(c.pullsLeft(0), 1);
            c.passMinutes(1);
            Kit.same(c.isReady(0), true);
        });
        Kit.test(56, "an order that is begun needs no more flour", () -> {
            NoodleCanal c = Kit.canal("canal 3;barge 0 1 3 0;order 1 3 3 99;");
            c.take(0, 0);
            c.passMinutes(3);
            Kit.same(c.isReady(0), true);
            Kit.same(c.flour(0), 0);
        });
        Kit.test(56, "barges pull in locks, but do not serve there", () -> {
            NoodleCanal c = Kit.canal("canal 3;lock 0 3;barge 0 1 9 9;order 0 1 2 99;order 1 1 1 99;");
            c.take(0, 0);
            c.take(0, 1);
            c.sail(0, 1);
            Kit.same(c.passMinutes(3), 0);
            Kit.same(c.readyCount(0), 2);
            Kit.same(c.timeInLock(0), 1);
            Kit.same(c.passMinutes(1), 1);
            Kit.same(c.isEaten(1), true);
            Kit.same(c.isReady(0), true);
        });
    }

    private static void serving() {
        Kit.test(56, "served in the minute of arrival and of the last pull", () -> {
            NoodleCanal c = Kit.canal("canal 4;barge 0 1 9 9;order 2 2 2 99;");
            c.take(0, 0);
            c.sail(0, 3);
            Kit.same(c.passMinutes(1), 0);
            Kit.same(c.passMinutes(1), 1);
            Kit.same(c.placeOf(0), 2);
            Kit.same(c.usedPairs(2), 2);
            Kit.same(c.cleanPairs(0), 7);
            Kit.same(c.coins(), 10);
            Kit.same(c.eatenBowls(), 2);
            Kit.same(c.passMinutes(1), 0);
        });
        Kit.test(56, "a barge moves on before it serves", () -> {
            NoodleCanal c = Kit.canal("canal 4;barge 0 1 9 9;order 1 1 2 99;");
            c.take(0, 0);
            c.sail(0, 2);
            Kit.same(c.passMinutes(2), 0);
            Kit.same(c.isReady(0), true);
        });
        Kit.test(56, "in ascending order, by number and not by queue", () -> {
            NoodleCanal c = Kit.canal("canal 3;barge 0 1 9 3;order 1 2 1 99;order 1 2 1 99;");
            c.take(0, 1);
            c.take(0, 0);
            c.passMinutes(2);
            c.sail(0, 1);
            Kit.same(c.passMinutes(1), 1);
            Kit.same(c.isEaten(0), true);
            Kit.same(c.isReady(1), true);
            Kit.same(c.cleanPairs(0), 1);
        });
        Kit.test(56, "an order with too many bowls is passed over", () -> {
            NoodleCanal c = Kit.canal("canal 3;barge 0 1 9 3;order 1 4 1 99;order 1 3 1 99;order 1 1 1 99;");
            for (int i = 0; i < 3; i++) c.take(0, i);
            c.passMinutes(3);
            c.sail(0, 1);
            Kit.same(c.passMinutes(1), 1);
            Kit.same(c.isEaten(1), true);
            Kit.same(c.cleanPairs(0), 0);
            Kit.same(c.readyCount(0), 2);
        });
        Kit.test(56, "each barge serves its own orders with its own pairs", () -> {
            NoodleCanal c = Kit.canal("canal 3;barge 1 1 9 0;barge 1 1 9 9;order 1 1 1 99;order 1 2 1 99;");
            c.take(0, 0);
            c.take(1, 1);
            Kit.same(c.passMinutes(1), 1);
            Kit.same(c.isEaten(1), true);
            Kit.same(c.isReady(0), true);
            Kit.same(c.cleanPairs(1), 7);
            Kit.same(c.usedPairs(1), 2);
        });
        Kit.test(56, "dirty pairs do not serve", () -> {
            NoodleCanal c = Kit.canal("canal 3;barge 0 1 9 1;order 0 1 1 99;order 0 1 1 99;");
            c.take(0, 0);
            c.take(0, 1);
            Kit.same(c.passMinutes(1), 1);
            c.collect(0);
            Kit.same(c.passMinutes(1), 0);
            c.wash(0);
            Kit.same(c.passMinutes(1), 1);
        });
    }

    private static void expiring() {
        Kit.test(56, "eaten in the minute of the deadline", () -> {
            NoodleCanal c = Kit.canal("canal 3;barge 0 1 9 9;order 0 1 2 2;");
            c.take(0, 0);
            Kit.same(c.passMinutes(2), 1);
            Kit.same(c.expiredOrders(), 0);
            Kit.same(c.coins(), 5);
        });
        Kit.test(56, "open, taken and ready orders expire", () -> {
            NoodleCanal c = Kit.canal("canal 3;barge 0 1 9 9;order 1 1 1 4;order 1 3 6 4;order 1 1 1 4;order 1 1 1 5;");
            c.take(0, 0);
            c.take(0, 1);
            c.passMinutes(3);
            Kit.same(c.expiredOrders(), 0);
            Kit.same(c.readyCount(0) * 10 + c.queueLength(0), 11);
            c.passMinutes(1);
            Kit.same(c.expiredOrders(), 3);
            Kit.same(c.coins(), -6);
            Kit.same(c.readyCount(0) * 10 + c.queueLength(0), 0);
            Kit.same(c.bargeOf(0) + c.bargeOf(1), -2);
            Kit.same(c.isReady(0), false);
            Kit.same(c.flour(0), 5);
            Kit.same(c.isOpen(3), true);
            c.passMinutes(1);
            Kit.same(c.coins(), -8);
        });
        Kit.test(56, "an expired order makes room and is never eaten", () -> {
            NoodleCanal c = Kit.canal("canal 3;barge 0 1 9 9;order 1 1 6 2;order 1 1 6 9;order 1 1 6 9;order 1 1 6 9;order 1 1 6 9;");
            for (int i = 0; i < 4; i++) c.take(0, i);
            Kit.stateError(() -> c.take(0, 4));
            c.passMinutes(2);
            Kit.same(c.take(0, 4), 4);
            c.sail(0, 1);
            c.passMinutes(1);
            Kit.same(c.pullsLeft(0), 4);
            Kit.same(c.pullsLeft(1), 5);
        });
        Kit.test(56, "a new order of one minute expires in the present one", () -> {
            NoodleCanal c = Kit.canal("canal 3;barge 0 1 9 9;");
            c.passMinutes(5);
            c.makeOrder(0, 1, 1, 1);
            c.makeOrder(0, 1, 1, 2);
            c.passMinutes(1);
            Kit.same(c.expiredOrders(), 1);
            Kit.same(c.isOpen(1), true);
        });
    }
}
