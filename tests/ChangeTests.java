/** Promises 49 to 55: the changes, but for the passing of minutes and scripts. */
final class ChangeTests {
    private static final String START = "canal 4;lock 1 2;bridge 2 3;barge 0 3 20 9;barge 1 6 5 1;order 1 2 2 30;order 3 1 1 10;order 0 1 1 40;order 2 3 1 50;order 0 4 6 60;";

    static void run() {
        sail();
        makeOrder();
        take();
        drop();
        buyFlour();
        collect();
        wash();
    }

    private static void sail() {
        Kit.test(49, "sail answers the time of the journey", () -> {
            NoodleCanal c = Kit.canal(START);
            Kit.same(c.sail(0, 3), 5);
            Kit.same(c.targetOf(0), 3);
            Kit.same(c.placeOf(0), 0);
            Kit.same(c.undoableCount(), 1);
            Kit.same(c.sail(1, 2), 3);
            Kit.same(c.sail(1, 0), 1);
            Kit.same(c.undoableCount(), 3);
        });
        Kit.test(49, "a barge can be stopped and turned", () -> {
            NoodleCanal c = Kit.canal(START);
            c.sail(0, 3);
            c.passMinutes(1);
            Kit.same(c.sail(0, 1), 0);
            c.passMinutes(5);
            Kit.same(c.placeOf(0), 1);
            c.sail(0, 3);
            Kit.same(c.sail(0, 0), 1);
            c.passMinutes(1);
            Kit.same(c.placeOf(0), 0);
        });
        Kit.test(49, "sail with an obstacle", () -> {
            NoodleCanal c = Kit.canal(START);
            Kit.refused(c, "IllegalStateException", () -> c.sail(0, 0));
            Kit.refused(c, "IllegalStateException", () -> c.sail(1, 3));
            c.sail(1, 2);
            Kit.stateError(() -> c.sail(1, 2));
            c.passMinutes(1);
            Kit.stateError(() -> c.sail(1, 1));
            Kit.stateError(() -> c.sail(1, 0));
        });
        Kit.test(49, "sail with no such barge or place", () -> {
            NoodleCanal c = Kit.canal(START);
            Kit.refused(c, "IndexOutOfBoundsException", () -> c.sail(2, 0));
            Kit.refused(c, "IndexOutOfBoundsException", () -> c.sail(0, 4));
            Kit.indexError(() -> c.sail(-1, 0));
            Kit.indexError(() -> c.sail(0, -1));
            Kit.indexError(() -> c.sail(Integer.MAX_VALUE, Integer.MIN_VALUE));
        });
    }

    private static void makeOrder() {
        Kit.test(50, "makeOrder answers the number", () -> {
            NoodleCanal c = Kit.canal(START);
            Kit.same(c.makeOrder(3, 4, 6, 500), 5);
            Kit.same(c.deadline(5), 499);
            Kit.same(c.orderPlace(5), 3);
            Kit.same(c.bowls(5), 4);
            Kit.same(c.pullsLeft(5), 6);
            Kit.same(c.isOpen(5), true);
            Kit.same(c.bargeOf(5), -1);
            c.passMinutes(7);
            Kit.same(c.makeOrder(0, 1, 1, 1), 6);
            Kit.same(c.deadline(6), 7);
            Kit.same(c.undoableCount(), 3);
        });
        Kit.test(50, "a number that was undone is used anew", () -> {
            NoodleCanal c = Kit.canal(START);
            c.makeOrder(3, 4, 6, 500);
            c.take(0, 5);
            c.passMinutes(2);
            for (int i = 0; i < 3; i++) c.undo();
            Kit.same(c.makeOrder(2, 1, 2, 3), 5);
            Kit.same(c.orderPlace(5), 2);
            Kit.same(c.pullsLeft(5), 2);
            Kit.same(c.isOpen(5), true);
            Kit.same(c.bargeOf(5), -1);
            c.take(0, 5);
            Kit.same(c.flourNeeded(0), 1);
        });
        Kit.test(50, "ranges of makeOrder", () -> {
            NoodleCanal c = Kit.canal(START);
            for (int[] n : new int[][] {{0, 1, 1}, {5, 1, 1}, {1, 0, 1}, {1, 7, 1}, {1, 1, 0}, {1, 1, 501}, {-1, -1, -1}, {Integer.MIN_VALUE, 1, 1}, {1, 1, Integer.MAX_VALUE}}) {
                Kit.argumentError(() -> c.makeOrder(0, n[0], n[1], n[2]));
                Kit.indexError(() -> c.makeOrder(4, n[0], n[1], n[2]));
                Kit.indexError(() -> c.makeOrder(-1, n[0], n[1], n[2]));
            }
            Kit.refused(c, "IllegalArgumentException", () -> c.makeOrder(0, 1, 1, 0));
            Kit.same(c.makeOrder(0, 1, 1, 1), 5);
        });
        Kit.test(50, "30 orders", () -> {
            NoodleCanal c = Kit.canal(START);
            for (int i = 5; i < 30; i++) Kit.same(c.makeOrder(0, 1, 1, 1), i);
            Kit.stateError(() -> c.makeOrder(0, 1, 1, 1));
            Kit.same(c.orderCount(), 30);
            Kit.same(c.undoableCount(), 8);
            Kit.argumentError(() -> c.makeOrder(0, 0, 1, 1));
            Kit.indexError(() -> c.makeOrder(4, 0, 1, 1));
            c.passMinutes(60);
            Kit.stateError(() -> c.makeOrder(0, 1, 1, 1));
            c.undo();
            c.undo();
            Kit.same(c.makeOrder(0, 1, 1, 1), 29);
        });
        Kit.test(50, "orders beyond the last minute", () -> {
            NoodleCanal c = Kit.late("canal 3;barge 0 1 0 0;", 1);
            c.makeOrder(0, 1, 1, 1);
            c.makeOrder(0, 1, 1, 500);
            Kit.same(c.deadline(1), 10498);
            c.passMinutes(1);
            Kit.same(c.expiredOrders(), 1);
            Kit.same(c.makeOrder(0, 1, 1, 1), 2);
            Kit.same(c.deadline(2), 10000);
            Kit.same(c.mostUrgentOrder(), 2);
        });
    }

    private static void take() {
        Kit.test(51, "take answers the length of the queue", () -> {
            NoodleCanal c = Kit.canal(START);
            Kit.same(c.take(0, 4), 1);
            Kit.same(c.take(1, 0), 1);
            Kit.same(c.take(0, 3), 2);
            Kit.same(c.queuedOrder(0, 1), 3);
            Kit.same(c.bargeOf(3), 0);
            Kit.same(c.isOpen(3), false);
            Kit.same(c.undoableCount(), 3);
        });
        Kit.test(51, "take of an order that is not open", () -> {
            NoodleCanal c = Kit.canal(START);
            c.take(0, 2);
            Kit.refused(c, "IllegalStateException", () -> c.take(0, 2));
            Kit.stateError(() -> c.take(1, 2));
            c.passMinutes(1);
            Kit.same(c.isEaten(2), true);
            Kit.stateError(() -> c.take(0, 2));
            c.take(0, 0);
            c.passMinutes(2);
            Kit.same(c.isReady(0), true);
            Kit.stateError(() -> c.take(1, 0));
            c.passMinutes(10);
            Kit.stateError(() -> c.take(1, 1));
            Kit.same(c.expiredOrders(), 1);
        });
        Kit.test(51, "at most 4 orders taken or ready", () -> {
            NoodleCanal c = Kit.canal(START);
            c.take(0, 3);
            for (int i : new int[] {0, 1, 4}) c.take(0, i);
            Kit.refused(c, "IllegalStateException", () -> c.take(0, 2));
            c.passMinutes(3);
            Kit.same(c.readyCount(0), 2);
            Kit.same(c.queueLength(0), 2);
            Kit.stateError(() -> c.take(0, 2));
            Kit.same(c.take(1, 2), 1);
            c.undo();
            c.drop(3);
            Kit.same(c.take(0, 2), 3);
            Kit.stateError(() -> c.take(0, 3));
        });
        Kit.test(51, "take with no such barge or order", () -> {
            NoodleCanal c = Kit.canal(START);
            Kit.refused(c, "IndexOutOfBoundsException", () -> c.take(2, 0));
            Kit.refused(c, "IndexOutOfBoundsException", () -> c.take(0, 5));
            Kit.indexError(() -> c.take(-1, 0));
            Kit.indexError(() -> c.take(0, -1));
            c.take(0, 0);
            Kit.indexError(() -> c.take(2, 0));
        });
        Kit.test(51, "a barge in a lock can take", () -> {
            NoodleCanal c = Kit.canal(START);
            c.sail(1, 2);
            c.passMinutes(1);
            Kit.same(c.timeInLock(1), 2);
            Kit.same(c.take(1, 0), 1);
        });
    }

    private static void drop() {
        Kit.test(52, "drop of a taken order", () -> {
            NoodleCanal c = Kit.canal(START);
            c.take(1, 4);
            c.take(1, 0);
            c.passMinutes(2);
            Kit.same(c.flour(1), 1);
            Kit.same(c.drop(4), 1);
            Kit.same(c.isOpen(4), true);
            Kit.same(c.bargeOf(4), -1);
            Kit.same(c.pullsLeft(4), 6);
            Kit.same(c.flour(1), 1);
            Kit.same(c.queueLength(1), 1);
            Kit.same(c.queuedOrder(1, 0), 0);
            Kit.same(c.undoableCount(), 4);
        });
        Kit.test(52, "a dropped order needs its flour anew", () -> {
            NoodleCanal c = Kit.canal(START);
            c.take(0, 4);
            c.passMinutes(2);
            c.drop(4);
            c.take(0, 4);
            Kit.same(c.flourNeeded(0), 4);
            c.passMinutes(1);
            Kit.same(c.flour(0), 12);
            Kit.same(c.pullsLeft(4), 5);
        });
        Kit.test(52, "drop of a ready order", () -> {
            NoodleCanal c = Kit.canal(START);
            c.take(0, 0);
            c.take(0, 3);
            c.passMinutes(2);
            Kit.same(c.isReady(0), true);
            Kit.same(c.drop(0), 0);
            Kit.same(c.isOpen(0), true);
            Kit.same(c.isReady(0), false);
            Kit.same(c.pullsLeft(0), 2);
            Kit.same(c.readyCount(0), 0);
            Kit.same(c.queueLength(0), 1);
            Kit.same(c.take(1, 0), 1);
        });
        Kit.test(52, "drop in a lock", () -> {
            NoodleCanal c = Kit.canal(START);
            c.take(1, 4);
            c.sail(1, 2);
            c.passMinutes(1);
            Kit.same(c.timeInLock(1), 2);
            Kit.same(c.drop(4), 1);
        });
        Kit.test(52, "drop of what is neither taken nor ready", () -> {
            NoodleCanal c = Kit.canal(START);
            Kit.refused(c, "IllegalStateException", () -> c.drop(0));
            c.take(0, 2);
            c.take(0, 1);
            c.passMinutes(1);
            Kit.same(c.isEaten(2), true);
            Kit.stateError(() -> c.drop(2));
            c.passMinutes(10);
            Kit.same(c.expiredOrders(), 1);
            Kit.stateError(() -> c.drop(1));
            c.take(0, 0);
            c.drop(0);
            Kit.stateError(() -> c.drop(0));
        });
        Kit.test(52, "drop of no order", () -> {
            NoodleCanal c = Kit.canal(START);
            for (int o : new int[] {-1, 5, 30, Integer.MIN_VALUE, Integer.MAX_VALUE}) Kit.indexError(() -> c.drop(o));
            Kit.refused(c, "IndexOutOfBoundsException", () -> c.drop(5));
        });
    }

    private static void buyFlour() {
        Kit.test(53, "buyFlour answers the flour", () -> {
            NoodleCanal c = Kit.canal(START);
            Kit.same(c.buyFlour(0, 1), 21);
            Kit.same(c.coins(), -1);
            Kit.same(c.buyFlour(0, 78), 99);
            Kit.same(c.coins(), -79);
            Kit.same(c.flour(0), 99);
            Kit.same(c.flour(1), 5);
            Kit.same(c.undoableCount(), 2);
            Kit.stateError(() -> c.buyFlour(0, 1));
            Kit.same(Kit.canal("canal 3;barge 0 1 0 0;").buyFlour(0, 99), 99);
        });
        Kit.test(53, "more than 99 units, or not in the harbor", () -> {
            NoodleCanal c = Kit.canal(START);
            Kit.refused(c, "IllegalStateException", () -> c.buyFlour(0, 80));
            Kit.refused(c, "IllegalStateException", () -> c.buyFlour(1, 1));
            c.sail(1, 0);
            c.passMinutes(1);
            Kit.same(c.buyFlour(1, 1), 6);
            c.sail(1, 1);
            Kit.same(c.buyFlour(1, 1), 7);
        });
        Kit.test(53, "buyFlour in the lock at the harbor", () -> {
            NoodleCanal c = Kit.canal("canal 3;lock 0 1;barge 0 1 0 0;");
            c.sail(0, 2);
            c.passMinutes(1);
            Kit.same(c.placeOf(0), 0);
            Kit.refused(c, "IllegalStateException", () -> c.buyFlour(0, 1));
            Kit.argumentError(() -> c.buyFlour(0, 100));
        });
        Kit.test(53, "buyFlour with wrong numbers", () -> {
            NoodleCanal c = Kit.canal(START);
            for (int n : new int[] {0, -1, 100, Integer.MIN_VALUE, Integer.MAX_VALUE}) {
                Kit.refused(c, "IllegalArgumentException", () -> c.buyFlour(1, n));
                Kit.indexError(() -> c.buyFlour(2, n));
                Kit.indexError(() -> c.buyFlour(-1, n));
            }
        });
    }

    private static NoodleCanal withUsedPairs() {
        NoodleCanal c = Kit.canal("canal 4;lock 0 2;barge 0 1 9 9;barge 0 1 9 9;order 0 2 1 9;order 0 3 1 9;");
        c.take(0, 0);
        c.take(1, 1);
        c.passMinutes(1);
        Kit.same(c.usedPairs(0), 5);
        return c;
    }

    private static void collect() {
        Kit.test(54, "collect answers the number of pairs", () -> {
            NoodleCanal c = withUsedPairs();
            Kit.same(c.collect(1), 5);
            Kit.same(c.usedPairs(0), 0);
            Kit.same(c.dirtyPairs(1), 5);
            Kit.same(c.cleanPairs(1), 6);
            Kit.same(c.undoableCount(), 4);
            Kit.same(c.collect(0), 0);
            Kit.same(c.collect(1), 0);
            Kit.same(c.dirtyPairs(1), 5);
            Kit.same(c.undoableCount(), 6);
        });
        Kit.test(54, "collect at its own place only", () -> {
            NoodleCanal c = withUsedPairs();
            c.sail(1, 3);
            c.passMinutes(3);
            Kit.same(c.placeOf(1), 1);
            Kit.same(c.collect(1), 0);
            Kit.same(c.usedPairs(0), 5);
        });
        Kit.test(54, "collect in a lock", () -> {
            NoodleCanal c = withUsedPairs();
            c.sail(1, 1);
            c.passMinutes(1);
            Kit.refused(c, "IllegalStateException", () -> c.collect(1));
            Kit.same(c.collect(0), 5);
        });
        Kit.test(54, "collect with no such barge", () -> {
            NoodleCanal c = withUsedPairs();
            for (int n : new int[] {-1, 2, 5, Integer.MIN_VALUE, Integer.MAX_VALUE}) Kit.refused(c, "IndexOutOfBoundsException", () -> c.collect(n));
        });
    }

    private static void wash() {
        Kit.test(55, "wash answers the clean pairs", () -> {
            NoodleCanal c = withUsedPairs();
            c.collect(1);
            Kit.same(c.wash(1), 11);
            Kit.same(c.cleanPairs(1), 11);
            Kit.same(c.dirtyPairs(1), 0);
            Kit.same(c.wash(1), 11);
            Kit.same(c.wash(0), 7);
            Kit.same(c.undoableCount(), 7);
        });
        Kit.test(55, "wash away from the harbor, or in a lock", () -> {
            NoodleCanal c = withUsedPairs();
            c.collect(1);
            c.sail(1, 1);
            c.passMinutes(1);
            Kit.refused(c, "IllegalStateException", () -> c.wash(1));
            c.passMinutes(2);
            Kit.same(c.placeOf(1), 1);
            Kit.refused(c, "IllegalStateException", () -> c.wash(1));
            c.sail(1, 0);
            c.passMinutes(3);
            Kit.same(c.wash(1), 11);
        });
        Kit.test(55, "wash with no such barge", () -> {
            NoodleCanal c = withUsedPairs();
            for (int n : new int[] {-1, 2, 5, Integer.MIN_VALUE, Integer.MAX_VALUE}) Kit.refused(c, "IndexOutOfBoundsException", () -> c.wash(n));
        });
    }
}
