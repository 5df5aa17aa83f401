/** Sentences of "Terms" on barges, and promises 14 to 25. */
final class BargeEdgeTests {
    private static final String ONE = "canal 3;barge 0 1 0 0;";
    private static final String FIVE = "canal 3;" + "barge 0 1 0 0;".repeat(5);
    private static final String FOUR_ORDERS = "canal 3;barge 0 1 99 99;barge 0 1 99 99;order 1 4 1 99;order 1 4 1 99;order 1 4 1 99;order 1 4 1 99;";

    private interface BargeCall {
        void on(NoodleCanal c, int barge);
    }

    static void run() {
        terms();
        positions();
        stores();
        queues();
        noBarge(15, (c, b) -> c.placeOf(b));
        noBarge(16, (c, b) -> c.targetOf(b));
        noBarge(17, (c, b) -> c.heightOf(b));
        noBarge(18, (c, b) -> c.timeInLock(b));
        noBarge(19, (c, b) -> c.flour(b));
        noBarge(20, (c, b) -> c.cleanPairs(b));
        noBarge(21, (c, b) -> c.dirtyPairs(b));
        noBarge(22, (c, b) -> c.queueLength(b));
        noBarge(23, (c, b) -> c.queuedOrder(b, 0));
        noBarge(23, (c, b) -> c.queuedOrder(b, -1));
        noBarge(24, (c, b) -> c.readyCount(b));
        noBarge(25, (c, b) -> c.flourNeeded(b));
    }

    private static void noBarge(int promise, BargeCall call) {
        Document.edge(promise, "Throws `IndexOutOfBoundsException` if there is no such barge", () -> {
            Kit.Made one = () -> Kit.busy(Kit.canal(ONE));
            call.on(one.get(), 0);
            Kit.indexRefused(one, c -> call.on(c, -1), c -> call.on(c, 1), c -> call.on(c, 2), c -> call.on(c, 5));
            Kit.indexRefused(one, c -> call.on(c, Integer.MIN_VALUE), c -> call.on(c, Integer.MAX_VALUE));
            call.on(Kit.canal(FIVE), 4);
            Kit.indexRefused(() -> Kit.canal(FIVE), c -> call.on(c, -1), c -> call.on(c, 5), c -> call.on(c, 6));
            NoodleCanal fewer = Kit.canal(FIVE);
            Kit.same(Kit.load(fewer, ONE), 1);
            Kit.indexError(() -> call.on(fewer, 1));
        });
    }

    private static void terms() {
        Document.edge(0, "There are 1 to 5 barges, numbered from 0.", () -> {
            Kit.loadFails("canal 3;", 1, 8);
            Kit.loadFails("canal 3;order 0 1 1 1;", 1, 8);
            Kit.same(Kit.load(new NoodleCanal(), ONE), 1);
            NoodleCanal five = Kit.canal("canal 5;barge 4 5 0 0;barge 3 6 0 0;barge 2 7 0 0;barge 1 8 0 0;barge 0 9 0 0;");
            for (int barge = 0; barge < 5; barge++) {
                Kit.same(five.placeOf(barge), 4 - barge);
                Kit.same(five.heightOf(barge), 5 + barge);
            }
            Kit.loadFails(FIVE + "barge 0 1 0 0;", 4, FIVE.length());
        });
        Document.edge(0, "A barge has a height from 1 to 9", () -> {
            Kit.loadFails("canal 3;barge 0 0 0 0;", 2, 16);
            Kit.same(Kit.canal("canal 3;barge 0 1 0 0;").heightOf(0), 1);
            Kit.same(Kit.canal("canal 3;barge 0 9 0 0;").heightOf(0), 9);
            Kit.loadFails("canal 3;barge 0 10 0 0;", 2, 16);
        });
        Document.edge(0, "a target, which is its place at first", () -> {
            NoodleCanal c = Kit.canal("canal 16;lock 0 1;barge 0 1 0 0;barge 15 1 0 0;barge 7 1 0 0;");
            int[] due = {0, 15, 7};
            c.passMinutes(3);
            for (int barge = 0; barge < 3; barge++) {
                Kit.same(c.targetOf(barge), due[barge]);
                Kit.same(c.placeOf(barge), due[barge]);
            }
        });
        Document.edge(0, "flour from 0 to 99 units", () -> {
            Kit.same(Kit.canal("canal 3;barge 0 1 0 0;").flour(0), 0);
            Kit.same(Kit.canal("canal 3;barge 0 1 99 0;").flour(0), 99);
            Kit.loadFails("canal 3;barge 0 1 100 0;", 2, 18);
            Kit.same(Kit.canal("canal 3;barge 0 1 98 0;").buyFlour(0, 1), 99);
            Kit.stateRefused(() -> Kit.canal("canal 3;barge 0 1 99 0;"), c -> c.buyFlour(0, 1));
            NoodleCanal none = Kit.canal("canal 3;barge 0 1 0 9;order 0 1 1 99;");
            none.take(0, 0);
            none.passMinutes(9);
            Kit.same("never below 0", none.flour(0), 0);
        });
        Document.edge(0, "A barge whose target is not its place sails.", () -> {
            NoodleCanal c = Kit.canal("canal 3;barge 1 1 0 0;barge 1 1 0 0;barge 1 1 0 0;");
            c.sail(0, 0);
            c.sail(2, 2);
            c.passMinutes(1);
            Kit.same(c.placeOf(0) * 100 + c.placeOf(1) * 10 + c.placeOf(2), 12);
            c.passMinutes(1);
            Kit.same(c.placeOf(0) * 100 + c.placeOf(1) * 10 + c.placeOf(2), 12);
        });
        Document.edge(0, "its place is the one from which it entered the lock until it leaves the lock", () -> {
            NoodleCanal c = Kit.canal("canal 4;lock 0 2;lock 2 2;barge 0 1 0 0;barge 3 1 0 0;");
            c.sail(0, 1);
            c.sail(1, 2);
            int[][] due = {{0, 2, 3, 2}, {0, 1, 3, 1}, {1, 0, 2, 0}};
            for (int[] line : due) {
                c.passMinutes(1);
                Kit.same(c.placeOf(0), line[0]);
                Kit.same(c.timeInLock(0), line[1]);
                Kit.same(c.placeOf(1), line[2]);
                Kit.same(c.timeInLock(1), line[3]);
            }
        });
    }

    private static void positions() {
        Document.edge(14, "Returns 1 to 5.", () -> {
            for (int barges = 1; barges <= 5; barges++) Kit.same(Kit.canal("canal 3;" + "barge 0 1 0 0;".repeat(barges)).bargeCount(), barges);
        });
        Document.edge(15, "Returns the number of the place.", () -> {
            NoodleCanal c = Kit.canal("canal 16;lock 14 3;barge 0 1 0 0;barge 15 1 0 0;");
            Kit.same(c.placeOf(0), 0);
            c.sail(1, 0);
            int[] due = {15, 15, 15, 15, 14, 13};
            for (int place : due) {
                Kit.same("at minute " + c.minute(), c.placeOf(1), place);
                c.passMinutes(1);
            }
            c.passMinutes(11);
            Kit.same(c.placeOf(1), 1);
            c.passMinutes(1);
            Kit.same(c.placeOf(1), 0);
            c.passMinutes(1);
            Kit.same(c.placeOf(1), 0);
        });
        Document.edge(16, "Returns the number of the place.", () -> {
            NoodleCanal c = Kit.canal("canal 16;lock 14 3;barge 0 1 0 0;barge 15 1 0 0;");
            Kit.same(c.targetOf(0), 0);
            Kit.same(c.targetOf(1), 15);
            c.sail(0, 15);
            c.sail(1, 0);
            Kit.same(c.targetOf(0), 15);
            Kit.same(c.targetOf(1), 0);
            c.passMinutes(2);
            Kit.same(c.timeInLock(1), 2);
            Kit.same("in a lock", c.targetOf(1), 0);
            c.sail(0, 2);
            Kit.same("stopped", c.targetOf(0), 2);
            c.passMinutes(18);
            Kit.same(c.placeOf(1), 0);
            Kit.same("at its end", c.targetOf(1), 0);
        });
        Document.edge(17, "Returns 1 to 9.", () -> {
            for (int height = 1; height <= 9; height++) Kit.same(Kit.canal("canal 3;barge 0 " + height + " 0 0;").heightOf(0), height);
        });
        Document.edge(18, "Returns 1 to 9 minutes; 0 if it is not in a lock.", () -> {
            NoodleCanal c = Kit.canal("canal 3;lock 0 9;lock 1 1;barge 0 1 0 0;barge 0 1 0 0;");
            c.sail(0, 2);
            c.sail(1, 1);
            int[] due = {0, 9, 8, 7, 6, 5, 4, 3, 2, 1, 0, 1, 0, 0};
            for (int time : due) {
                Kit.same("at minute " + c.minute(), c.timeInLock(0), time);
                if (c.minute() < 10) Kit.same("waiting for the lock", c.timeInLock(1), 0);
                c.passMinutes(1);
            }
            Kit.same(c.placeOf(0), 2);
        });
    }

    private static void stores() {
        Document.edge(19, "Returns 0 to 99.", () -> {
            NoodleCanal c = Kit.canal("canal 3;barge 0 1 4 0;barge 0 1 99 0;order 1 4 1 99;");
            Kit.same(c.flour(1), 99);
            c.take(0, 0);
            Kit.same(c.flour(0), 4);
            c.passMinutes(1);
            Kit.same(c.flour(0), 0);
            c.buyFlour(0, 99);
            Kit.same(c.flour(0), 99);
        });
        Document.edge(20, "Returns the number of pairs.", () -> {
            NoodleCanal c = Kit.canal("canal 3;barge 0 1 9 4;barge 0 1 0 99;barge 0 1 0 0;order 0 4 1 9;");
            Kit.same(c.cleanPairs(0), 4);
            Kit.same(c.cleanPairs(1), 99);
            Kit.same(c.cleanPairs(2), 0);
            c.take(0, 0);
            c.passMinutes(1);
            Kit.same("all used", c.cleanPairs(0), 0);
            c.collect(1);
            Kit.same("before washing", c.cleanPairs(1), 99);
            c.wash(1);
            Kit.same("more than can be loaded", c.cleanPairs(1), 103);
        });
        Document.edge(21, "Returns the number of pairs.", () -> {
            NoodleCanal c = Kit.canal("canal 3;barge 0 1 9 99;order 0 4 1 9;order 0 1 1 9;");
            Kit.same("at first", c.dirtyPairs(0), 0);
            c.take(0, 0);
            c.take(0, 1);
            c.passMinutes(1);
            Kit.same("used, not collected", c.dirtyPairs(0), 0);
            c.collect(0);
            Kit.same(c.dirtyPairs(0), 4);
            c.passMinutes(1);
            c.collect(0);
            Kit.same("added", c.dirtyPairs(0), 5);
            c.wash(0);
            Kit.same("washed", c.dirtyPairs(0), 0);
        });
    }

    private static void queues() {
        Document.edge(22, "Returns the number of its orders that are taken and not ready.", () -> {
            NoodleCanal c = Kit.canal(FOUR_ORDERS);
            for (int taken = 0; taken < 4; taken++) {
                Kit.same(c.queueLength(0), taken);
                c.take(0, taken);
            }
            for (int left = 4; left >= 0; left--) {
                Kit.same("at minute " + c.minute(), c.queueLength(0), left);
                Kit.same("of the other barge", c.queueLength(1), 0);
                c.passMinutes(1);
            }
        });
        Document.edge(23, "`index`: 0 for the first order of the queue", () -> {
            NoodleCanal c = Kit.canal(FOUR_ORDERS);
            c.take(0, 2);
            c.take(0, 0);
            Kit.same(c.queuedOrder(0, 0), 2);
            c.passMinutes(1);
            Kit.same(c.queuedOrder(0, 0), 0);
        });
        Document.edge(23, "Returns the number of the order; -1 if index is negative or not less than queueLength(barge).", () -> {
            NoodleCanal c = Kit.canal(FOUR_ORDERS);
            Kit.same("of an empty queue", c.queuedOrder(0, 0), -1);
            for (int i = 0; i < 4; i++) {
                c.take(0, 3 - i);
                Kit.same(c.queuedOrder(0, i), 3 - i);
                Kit.same(c.queuedOrder(0, i + 1), -1);
            }
            for (int i : new int[] {-1, -2, 5, Integer.MIN_VALUE, Integer.MAX_VALUE}) Kit.same("index " + i, c.queuedOrder(0, i), -1);
            c.passMinutes(1);
            Kit.same("the last one", c.queuedOrder(0, 2), 0);
            Kit.same("behind the last one", c.queuedOrder(0, 3), -1);
            Kit.same("of the other barge", c.queuedOrder(1, 0), -1);
        });
        Document.edge(24, "Returns the number of its orders that are ready.", () -> {
            NoodleCanal c = Kit.canal(FOUR_ORDERS);
            for (int i = 0; i < 4; i++) c.take(0, i);
            for (int ready = 0; ready <= 4; ready++) {
                Kit.same("at minute " + c.minute(), c.readyCount(0), ready);
                Kit.same("of the other barge", c.readyCount(1), 0);
                c.passMinutes(1);
            }
            c.drop(0);
            Kit.same("one dropped", c.readyCount(0), 3);
            c.sail(0, 1);
            c.passMinutes(1);
            Kit.same("all eaten", c.readyCount(0), 0);
        });
        Document.edge(25, "Returns the sum of the bowls of the orders of its queue that are not begun.", () -> {
            NoodleCanal c = Kit.canal("canal 3;barge 0 1 15 9;order 1 4 2 99;order 1 4 1 99;order 1 4 1 99;order 1 4 1 99;");
            for (int i = 0; i < 4; i++) {
                Kit.same(c.flourNeeded(0), 4 * i);
                c.take(0, i);
            }
            // Its flour is enough for three of the four orders, the first of which takes two pulls.
            int[] due = {16, 12, 12, 8, 4, 4};
            for (int need : due) {
                Kit.same("at minute " + c.minute(), c.flourNeeded(0), need);
                c.passMinutes(1);
            }
            c.buyFlour(0, 1);
            c.passMinutes(1);
            Kit.same(c.flourNeeded(0), 0);
        });
    }
}
