/** Promises 1 and 6 to 13: a new object and what can be asked about the canal. */
final class CanalTests {
    private static final String LOCKS = "canal 4;lock 0 2;bridge 1 5;lock 2 9;bridge 2 1;barge 1 3 20 9;barge 0 6 5 3;order 1 2 2 30;order 3 1 1 10;order 1 1 1 40;";

    static void run() {
        newObject();
        minutes();
        places();
        sections();
        countsAtPlaces();
    }

    private static void newObject() {
        Kit.test(1, "the canal of a new object", () -> {
            Kit.same(Kit.lookAtCanal(new NoodleCanal()), "minute 0 coins 0 eaten 0 expired 0 share 0.0 mean 4.0 gap 0"
                + "\nplace 0 1 0 section 0 0 -1\nplace 0 0 1 section 3 0 -1\nplace 0 1 1 section 0 0 -1"
                + "\nplace 0 0 0 section 0 4 -1\nplace 0 0 0 section 2 0 -1\nplace 0 0 1"
                + "\nbarge 0 0 3 0 10 6 0 0 0\nbarge 2 2 5 0 4 2 0 0 0"
                + "\norder 2 2 3 19 12 -1 truefalsefalse\norder 5 1 1 29 4 -1 truefalsefalse\norder 1 3 2 14 15 -1 truefalsefalse");
        });
        Kit.test(1, "nothing else in a new object", () -> {
            NoodleCanal c = new NoodleCanal();
            Kit.same(c.errorCode(), 0);
            Kit.same(c.errorOffset(), -1);
            Kit.same(c.undoableCount(), 0);
            Kit.stateError(c::undo);
            Kit.stateError(c::restoreSnapshot);
            Kit.indexError(() -> c.outputByte(0));
            Kit.argumentError(() -> c.loadCanal(1));
            Kit.argumentError(() -> c.runScript(1));
            Kit.same(c.appendText(0, 0, 0, 0, 0), 20);
        });
        Kit.test(1, "two objects share nothing", () -> {
            NoodleCanal c = new NoodleCanal();
            c.take(0, 0);
            c.passMinutes(60);
            c.appendText(0, 0, 0, 0, 0);
            NoodleCanal d = new NoodleCanal();
            Kit.same(d.minute(), 0);
            Kit.same(d.bargeOf(0), -1);
            Kit.same(d.appendText(0, 0, 0, 0, 0), 20);
        });
    }

    private static void minutes() {
        Kit.test(6, "minute", () -> {
            NoodleCanal c = new NoodleCanal();
            Kit.same(c.minute(), 0);
            c.passMinutes(1);
            Kit.same(c.minute(), 1);
            c.passMinutes(60);
            Kit.same(c.minute(), 61);
            c.undo();
            Kit.same(c.minute(), 1);
        });
        Kit.test(6, "minute at the end of all minutes", () -> {
            NoodleCanal c = Kit.late("canal 3;barge 0 1 0 0;", 1);
            Kit.same(c.minute(), 9999);
            c.passMinutes(1);
            Kit.same(c.minute(), 10000);
        });
    }

    private static void places() {
        Kit.test(7, "placeCount", () -> {
            Kit.same(new NoodleCanal().placeCount(), 6);
            Kit.same(Kit.canal("canal 3;barge 0 1 0 0;").placeCount(), 3);
            Kit.same(Kit.canal("canal 16;barge 0 1 0 0;").placeCount(), 16);
        });
    }

    private static void sections() {
        Kit.test(8, "lockWait", () -> {
            NoodleCanal c = Kit.canal(LOCKS);
            Kit.same(c.lockWait(0), 2);
            Kit.same(c.lockWait(1), 0);
            Kit.same(c.lockWait(2), 9);
            Kit.same(new NoodleCanal().lockWait(4), 2);
        });
        Kit.test(8, "lockWait of no section", () -> {
            for (int s : new int[] {-1, 3, 4, 15, 16, Integer.MIN_VALUE, Integer.MAX_VALUE}) {
                Kit.indexError(() -> Kit.canal(LOCKS).lockWait(s));
            }
            Kit.indexError(() -> Kit.canal("canal 16;barge 0 1 0 0;").lockWait(15));
        });
        Kit.test(9, "clearance", () -> {
            NoodleCanal c = Kit.canal(LOCKS);
            Kit.same(c.clearance(0), 0);
            Kit.same(c.clearance(1), 5);
            Kit.same(c.clearance(2), 1);
            Kit.same(Kit.canal("canal 16;bridge 14 9;barge 0 1 0 0;").clearance(14), 9);
        });
        Kit.test(9, "clearance of no section", () -> {
            for (int s : new int[] {-1, 3, 16, Integer.MIN_VALUE, Integer.MAX_VALUE}) {
                Kit.indexError(() -> Kit.canal(LOCKS).clearance(s));
            }
        });
        Kit.test(10, "bargeInLock", () -> {
            NoodleCanal c = Kit.canal(LOCKS);
            Kit.same(c.bargeInLock(0), -1);
            c.sail(1, 1);
            Kit.same(c.bargeInLock(0), -1);
            c.passMinutes(1);
            Kit.same(c.bargeInLock(0), 1);
            Kit.same(c.bargeInLock(2), -1);
            c.passMinutes(1);
            Kit.same(c.bargeInLock(0), 1);
            c.passMinutes(1);
            Kit.same(c.bargeInLock(0), -1);
        });
        Kit.test(10, "bargeInLock toward smaller places", () -> {
            NoodleCanal c = Kit.canal(LOCKS);
            c.sail(0, 0);
            c.passMinutes(1);
            Kit.same(c.bargeInLock(0), 0);
            Kit.same(c.bargeInLock(1), -1);
        });
        Kit.test(10, "bargeInLock of no section", () -> {
            for (int s : new int[] {-1, 3, 16, Integer.MIN_VALUE, Integer.MAX_VALUE}) {
                Kit.indexError(() -> Kit.canal(LOCKS).bargeInLock(s));
            }
        });
    }

    private static void countsAtPlaces() {
        Kit.test(11, "usedPairs", () -> {
            NoodleCanal c = Kit.canal(LOCKS);
            Kit.same(c.usedPairs(1), 0);
            c.take(0, 0);
            c.take(0, 2);
            c.passMinutes(2);
            Kit.same(c.usedPairs(1), 2);
            c.passMinutes(1);
            Kit.same(c.usedPairs(1), 3);
            Kit.same(c.usedPairs(0), 0);
            Kit.same(c.usedPairs(3), 0);
            c.collect(0);
            Kit.same(c.usedPairs(1), 0);
        });
        Kit.test(12, "bargesAt", () -> {
            NoodleCanal c = Kit.canal("canal 4;lock 1 2;barge 0 1 0 0;barge 0 1 0 0;barge 1 1 0 0;");
            Kit.same(c.bargesAt(0), 2);
            Kit.same(c.bargesAt(1), 1);
            Kit.same(c.bargesAt(3), 0);
            c.sail(0, 3);
            c.passMinutes(1);
            Kit.same(c.bargesAt(0), 1);
            Kit.same(c.bargesAt(1), 2);
            c.passMinutes(1);
            Kit.same(c.bargesAt(1), 1);
            Kit.same(c.placeOf(0), 1);
            c.passMinutes(2);
            Kit.same(c.bargesAt(2), 1);
        });
        Kit.test(13, "ordersAt", () -> {
            NoodleCanal c = Kit.canal(LOCKS);
            Kit.same(c.ordersAt(1), 2);
            Kit.same(c.ordersAt(3), 1);
            Kit.same(c.ordersAt(0), 0);
            c.take(1, 0);
            Kit.same(c.ordersAt(1), 2);
            c.passMinutes(2);
            Kit.same(c.isReady(0), true);
            Kit.same(c.ordersAt(1), 2);
            c.sail(1, 1);
            c.passMinutes(3);
            Kit.same(c.isEaten(0), true);
            Kit.same(c.ordersAt(1), 1);
            c.passMinutes(5);
            Kit.same(c.ordersAt(3), 0);
        });
        Kit.test(11, "usedPairs of no place", () -> noPlace((c, p) -> c.usedPairs(p)));
        Kit.test(12, "bargesAt of no place", () -> noPlace((c, p) -> c.bargesAt(p)));
        Kit.test(13, "ordersAt of no place", () -> noPlace((c, p) -> c.ordersAt(p)));
    }

    private interface PlaceCall {
        void on(NoodleCanal c, int place);
    }

    private static void noPlace(PlaceCall call) {
        NoodleCanal c = Kit.canal(LOCKS);
        for (int p : new int[] {-1, 4, 5, 16, Integer.MIN_VALUE, Integer.MAX_VALUE}) Kit.indexError(() -> call.on(c, p));
        NoodleCanal wide = Kit.canal("canal 16;barge 15 1 0 0;");
        call.on(wide, 15);
        Kit.indexError(() -> call.on(wide, 16));
    }
}
