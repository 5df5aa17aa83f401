/** Promises 14 to 25: what can be asked about barges. */
final class BargeTests {
    private static final String TWO = "canal 4;lock 1 2;barge 0 3 20 9;barge 2 6 5 1;order 1 2 2 30;order 3 1 1 10;order 0 4 3 40;order 2 3 1 50;order 2 2 2 60;";

    private interface BargeCall {
        void on(NoodleCanal c, int barge);
    }

    static void run() {
        positions();
        stores();
        queues();
        Kit.test(15, "placeOf no barge", () -> noBarge((c, b) -> c.placeOf(b)));
        Kit.test(16, "targetOf no barge", () -> noBarge((c, b) -> c.targetOf(b)));
        Kit.test(17, "heightOf no barge", () -> noBarge((c, b) -> c.heightOf(b)));
        Kit.test(18, "timeInLock of no barge", () -> noBarge((c, b) -> c.timeInLock(b)));
        Kit.test(19, "flour of no barge", () -> noBarge((c, b) -> c.flour(b)));
        Kit.test(20, "cleanPairs of no barge", () -> noBarge((c, b) -> c.cleanPairs(b)));
        Kit.test(21, "dirtyPairs of no barge", () -> noBarge((c, b) -> c.dirtyPairs(b)));
        Kit.test(22, "queueLength of no barge", () -> noBarge((c, b) -> c.queueLength(b)));
        Kit.test(23, "queuedOrder of no barge", () -> noBarge((c, b) -> c.queuedOrder(b, 0)));
        Kit.test(23, "queuedOrder of no barge at no index", () -> noBarge((c, b) -> c.queuedOrder(b, b)));
        Kit.test(24, "readyCount of no barge", () -> noBarge((c, b) -> c.readyCount(b)));
        Kit.test(25, "flourNeeded of no barge", () -> noBarge((c, b) -> c.flourNeeded(b)));
    }

    private static void noBarge(BargeCall call) {
        NoodleCanal c = Kit.canal(TWO);
        for (int b : new int[] {-1, 2, 3, 5, Integer.MIN_VALUE, Integer.MAX_VALUE}) Kit.indexError(() -> call.on(c, b));
        NoodleCanal full = Kit.canal("canal 3;" + "barge 0 1 0 0;".repeat(5));
        call.on(full, 4);
        Kit.indexError(() -> call.on(full, 5));
        Kit.load(full, "canal 3;barge 0 1 0 0;");
        Kit.indexError(() -> call.on(full, 1));
    }

    private static void positions() {
        Kit.test(14, "bargeCount", () -> {
            Kit.same(new NoodleCanal().bargeCount(), 2);
            Kit.same(Kit.canal("canal 3;barge 0 1 0 0;").bargeCount(), 1);
            Kit.same(Kit.canal("canal 3;" + "barge 0 1 0 0;".repeat(5)).bargeCount(), 5);
        });
        Kit.test(15, "placeOf", () -> {
            NoodleCanal c = Kit.canal(TWO);
            Kit.same(c.placeOf(0), 0);
            Kit.same(c.placeOf(1), 2);
            c.sail(0, 3);
            Kit.same(c.placeOf(0), 0);
            int[] due = {1, 1, 1, 2, 3, 3};
            for (int place : due) {
                c.passMinutes(1);
                Kit.same("minute " + c.minute(), c.placeOf(0), place);
            }
            c.sail(1, 0);
            int[] down = {2, 2, 1, 0, 0};
            for (int place : down) {
                c.passMinutes(1);
                Kit.same("minute " + c.minute(), c.placeOf(1), place);
            }
        });
        Kit.test(16, "targetOf", () -> {
            NoodleCanal c = Kit.canal(TWO);
            Kit.same(c.targetOf(0), 0);
            Kit.same(c.targetOf(1), 2);
            c.sail(0, 3);
            Kit.same(c.targetOf(0), 3);
            Kit.same(c.targetOf(1), 2);
            c.passMinutes(10);
            Kit.same(c.targetOf(0), 3);
        });
        Kit.test(17, "heightOf", () -> {
            Kit.same(Kit.canal(TWO).heightOf(0), 3);
            Kit.same(Kit.canal(TWO).heightOf(1), 6);
        });
        Kit.test(18, "timeInLock", () -> {
            NoodleCanal c = Kit.canal(TWO);
            Kit.same(c.timeInLock(0), 0);
            c.sail(0, 3);
            int[] due = {0, 2, 1, 0, 0};
            for (int time : due) {
                c.passMinutes(1);
                Kit.same("minute " + c.minute(), c.timeInLock(0), time);
                Kit.same(c.timeInLock(1), 0);
            }
            NoodleCanal nine = Kit.canal("canal 3;lock 0 9;barge 0 1 0 0;");
            nine.sail(0, 1);
            nine.passMinutes(1);
            Kit.same(nine.timeInLock(0), 9);
        });
    }

    private static void stores() {
        Kit.test(19, "flour", () -> {
            NoodleCanal c = Kit.canal(TWO);
            Kit.same(c.flour(0), 20);
            Kit.same(c.flour(1), 5);
            c.take(0, 0);
            Kit.same(c.flour(0), 20);
            c.passMinutes(1);
            Kit.same(c.flour(0), 18);
            c.passMinutes(1);
            Kit.same(c.flour(0), 18);
            Kit.same(Kit.canal("canal 3;barge 0 1 99 0;").flour(0), 99);
        });
        Kit.test(20, "cleanPairs", () -> {
            NoodleCanal c = Kit.canal("canal 3;barge 0 1 9 9;order 0 2 1 9;");
            Kit.same(c.cleanPairs(0), 9);
            c.take(0, 0);
            c.passMinutes(1);
            Kit.same(c.cleanPairs(0), 7);
            c.collect(0);
            Kit.same(c.cleanPairs(0), 7);
            c.wash(0);
            Kit.same(c.cleanPairs(0), 9);
        });
        Kit.test(20, "cleanPairs above 99", () -> {
            NoodleCanal c = Kit.canal("canal 3;barge 0 1 9 99;barge 0 1 0 99;order 0 2 1 9;");
            c.take(0, 0);
            c.passMinutes(1);
            c.collect(1);
            Kit.same(c.wash(1), 101);
            Kit.same(c.cleanPairs(1), 101);
        });
        Kit.test(21, "dirtyPairs", () -> {
            NoodleCanal c = Kit.canal("canal 3;barge 0 1 9 9;barge 0 1 0 0;order 0 2 1 9;order 0 3 1 9;");
            Kit.same(c.dirtyPairs(0), 0);
            c.take(0, 0);
            c.take(0, 1);
            c.passMinutes(1);
            Kit.same(c.dirtyPairs(0), 0);
            c.collect(1);
            Kit.same(c.dirtyPairs(1), 2);
            c.passMinutes(1);
            c.collect(1);
            Kit.same(c.dirtyPairs(1), 5);
            Kit.same(c.dirtyPairs(0), 0);
            c.wash(1);
            Kit.same(c.dirtyPairs(1), 0);
        });
    }

    private static void queues() {
        Kit.test(22, "queueLength", () -> {
            NoodleCanal c = Kit.canal(TWO);
            Kit.same(c.queueLength(0), 0);
            c.take(0, 0);
            c.take(0, 3);
            Kit.same(c.queueLength(0), 2);
            Kit.same(c.queueLength(1), 0);
            c.passMinutes(2);
            Kit.same(c.queueLength(0), 1);
            c.drop(3);
            Kit.same(c.queueLength(0), 0);
        });
        Kit.test(22, "an expired order leaves the queue", () -> {
            NoodleCanal c = Kit.canal("canal 3;barge 0 1 0 0;order 1 1 1 9;order 1 1 1 2;order 1 1 1 9;");
            c.take(0, 0);
            c.take(0, 1);
            c.take(0, 2);
            c.passMinutes(1);
            Kit.same(c.queueLength(0), 3);
            c.passMinutes(1);
            Kit.same(c.queueLength(0), 2);
            Kit.same(c.queuedOrder(0, 0), 0);
            Kit.same(c.queuedOrder(0, 1), 2);
        });
        Kit.test(23, "queuedOrder", () -> {
            NoodleCanal c = Kit.canal(TWO);
            c.take(0, 3);
            c.take(0, 0);
            c.take(0, 4);
            Kit.same(c.queuedOrder(0, 0), 3);
            Kit.same(c.queuedOrder(0, 1), 0);
            Kit.same(c.queuedOrder(0, 2), 4);
            for (int i : new int[] {-1, 3, 4, Integer.MIN_VALUE, Integer.MAX_VALUE}) Kit.same(c.queuedOrder(0, i), -1);
            Kit.same(c.queuedOrder(1, 0), -1);
            c.drop(0);
            Kit.same(c.queuedOrder(0, 1), 4);
            Kit.same(c.queuedOrder(0, 2), -1);
            c.take(0, 0);
            Kit.same(c.queuedOrder(0, 2), 0);
            c.passMinutes(1);
            Kit.same(c.queuedOrder(0, 0), 4);
        });
        Kit.test(23, "four orders in the queue", () -> {
            NoodleCanal c = Kit.canal(TWO);
            for (int i = 0; i < 4; i++) c.take(1, 3 - i);
            for (int i = 0; i < 4; i++) Kit.same(c.queuedOrder(1, i), 3 - i);
            Kit.same(c.queuedOrder(1, 4), -1);
        });
        Kit.test(24, "readyCount", () -> {
            NoodleCanal c = Kit.canal("canal 3;barge 0 1 9 9;barge 0 1 9 9;order 1 1 1 9;order 1 1 2 9;order 2 1 1 4;");
            for (int i = 0; i < 3; i++) c.take(0, i);
            int[] due = {1, 1, 2, 2};
            for (int ready : due) {
                c.passMinutes(1);
                Kit.same("minute " + c.minute(), c.readyCount(0), ready);
                Kit.same(c.readyCount(1), 0);
            }
        });
        Kit.test(24, "ready orders that are eaten, dropped or expired count no more", () -> {
            NoodleCanal c = Kit.canal("canal 3;barge 0 1 9 9;order 1 1 1 9;order 1 1 1 9;order 2 1 1 4;order 2 1 1 9;");
            for (int i = 0; i < 3; i++) c.take(0, i);
            c.passMinutes(3);
            Kit.same(c.readyCount(0), 3);
            c.passMinutes(1);
            Kit.same(c.readyCount(0), 2);
            c.drop(0);
            Kit.same(c.readyCount(0), 1);
            c.sail(0, 1);
            c.passMinutes(1);
            Kit.same(c.isEaten(1), true);
            Kit.same(c.readyCount(0), 0);
        });
        Kit.test(25, "flourNeeded", () -> {
            NoodleCanal c = Kit.canal(TWO);
            Kit.same(c.flourNeeded(0), 0);
            c.take(0, 0);
            c.take(0, 2);
            c.take(0, 3);
            Kit.same(c.flourNeeded(0), 9);
            c.passMinutes(1);
            Kit.same(c.flourNeeded(0), 7);
            c.passMinutes(1);
            Kit.same(c.flourNeeded(0), 7);
            c.passMinutes(1);
            Kit.same(c.flourNeeded(0), 3);
            c.drop(2);
            Kit.same(c.flourNeeded(0), 3);
            c.take(0, 2);
            Kit.same(c.flourNeeded(0), 7);
            Kit.same(c.flourNeeded(1), 0);
        });
    }
}
