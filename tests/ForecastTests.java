/** Promises 43 to 48: reasons and forecasts, which change nothing. */
final class ForecastTests {
    private static final String BRIDGES = "canal 6;lock 0 2;bridge 1 5;bridge 3 4;lock 3 1;barge 2 5 9 9;barge 2 4 9 9;barge 2 6 9 9;order 0 1 1 50;order 5 1 1 50;order 2 1 1 50;";

    static void run() {
        obstacles();
        journeys();
        targets();
        eating();
        coins();
        nearest();
        nothingChanges();
    }

    private static void obstacles() {
        Kit.test(43, "bridges on the way", () -> {
            NoodleCanal c = Kit.canal(BRIDGES);
            int[][] due = {{0, 0, 2, 0, 3, 3}, {0, 0, 2, 0, 0, 0}, {3, 3, 2, 0, 3, 3}};
            for (int b = 0; b < 3; b++) for (int p = 0; p < 6; p++) Kit.same("barge " + b + " to " + p, c.sailObstacle(b, p), due[b][p]);
        });
        Kit.test(43, "the clearance may be the height, down to 1", () -> {
            NoodleCanal c = Kit.canal("canal 4;bridge 0 1;bridge 2 9;barge 1 1 0 0;barge 1 2 0 0;barge 1 9 0 0;");
            int[] due = {0, 3, 3};
            for (int b = 0; b < 3; b++) {
                Kit.same(c.sailObstacle(b, 0), due[b]);
                Kit.same(c.sailObstacle(b, 3), 0);
            }
        });
        Kit.test(43, "the place is the target already", () -> {
            NoodleCanal c = Kit.canal(BRIDGES);
            c.sail(1, 5);
            Kit.same(c.sailObstacle(1, 5), 2);
            Kit.same(c.sailObstacle(1, 2), 0);
            c.passMinutes(1);
            Kit.same(c.sailObstacle(1, 3), 0);
            Kit.same(c.sailObstacle(1, 5), 2);
        });
        Kit.test(43, "a barge in a lock", () -> {
            NoodleCanal c = Kit.canal(BRIDGES);
            c.sail(1, 5);
            c.passMinutes(2);
            Kit.same(c.timeInLock(1), 1);
            for (int p = 0; p < 6; p++) Kit.same(c.sailObstacle(1, p), 1);
            c.passMinutes(1);
            Kit.same(c.sailObstacle(1, 4), 0);
        });
        Kit.test(43, "no such barge or place", () -> {
            NoodleCanal c = Kit.canal(BRIDGES);
            for (int n : new int[] {-1, Integer.MIN_VALUE, Integer.MAX_VALUE}) {
                Kit.indexError(() -> c.sailObstacle(n, 0));
                Kit.indexError(() -> c.sailObstacle(0, n));
            }
            Kit.indexError(() -> c.sailObstacle(3, 0));
            Kit.indexError(() -> c.sailObstacle(0, 6));
        });
    }

    private static void journeys() {
        Kit.test(44, "journeyTime", () -> {
            NoodleCanal c = Kit.canal(BRIDGES);
            Kit.same(c.journeyTime(0, 0), 0);
            Kit.same(c.journeyTime(5, 5), 0);
            Kit.same(c.journeyTime(0, 1), 3);
            Kit.same(c.journeyTime(1, 0), 3);
            Kit.same(c.journeyTime(1, 3), 2);
            Kit.same(c.journeyTime(0, 5), 8);
            Kit.same(c.journeyTime(5, 0), 8);
            Kit.same(c.journeyTime(3, 4), 2);
            Kit.same(c.journeyTime(4, 5), 1);
        });
        Kit.test(44, "no such place", () -> {
            NoodleCanal c = Kit.canal(BRIDGES);
            for (int n : new int[] {-1, 6, Integer.MIN_VALUE, Integer.MAX_VALUE}) {
                Kit.indexError(() -> c.journeyTime(n, 0));
                Kit.indexError(() -> c.journeyTime(0, n));
                Kit.indexError(() -> c.journeyTime(n, n));
            }
        });
    }

    private static void targets() {
        Kit.test(45, "minutesToTarget", () -> {
            NoodleCanal c = Kit.canal(BRIDGES);
            Kit.same(c.minutesToTarget(0), 0);
            c.sail(1, 5);
            Kit.same(c.minutesToTarget(1), 4);
            Kit.same(c.minutesToTarget(0), 0);
            c.passMinutes(1);
            Kit.same(c.minutesToTarget(1), 3);
            c.passMinutes(1);
            Kit.same(c.minutesToTarget(1), 2);
            c.passMinutes(2);
            Kit.same(c.minutesToTarget(1), 0);
        });
        Kit.test(45, "with other barges in the lock", () -> {
            NoodleCanal c = Kit.canal("canal 3;lock 0 9;barge 0 1 0 0;barge 0 1 0 0;barge 1 1 0 0;");
            c.sail(0, 1);
            c.sail(1, 2);
            c.sail(2, 0);
            Kit.same(c.minutesToTarget(0), 10);
            Kit.same(c.minutesToTarget(1), 20);
            Kit.same(c.minutesToTarget(2), 28);
        });
        Kit.test(45, "the longest way, behind other barges", () -> {
            StringBuilder s = new StringBuilder("canal 16;");
            for (int i = 0; i < 15; i++) s.append("lock ").append(i).append(" 9;");
            NoodleCanal c = Kit.canal(s + "barge 0 1 0 0;barge 0 1 0 0;barge 0 1 0 0;barge 0 1 0 0;barge 0 1 0 0;");
            for (int b = 0; b < 5; b++) c.sail(b, 15);
            for (int b = 0; b < 5; b++) Kit.same(c.minutesToTarget(b), 150 + 9 * b);
        });
        Kit.test(45, "minutes beyond 9999 do not pass", () -> {
            NoodleCanal c = Kit.late("canal 6;barge 0 1 0 0;", 3);
            c.sail(0, 3);
            Kit.same(c.minutesToTarget(0), 3);
            c.undo();
            c.sail(0, 4);
            Kit.same(c.minutesToTarget(0), -1);
            c.passMinutes(3);
            Kit.same(c.placeOf(0), 3);
            Kit.same(c.minutesToTarget(0), -1);
            c.sail(0, 3);
            Kit.same(c.minutesToTarget(0), 0);
        });
        Kit.test(45, "no such barge", () -> {
            NoodleCanal c = Kit.canal(BRIDGES);
            for (int n : new int[] {-1, 3, Integer.MIN_VALUE, Integer.MAX_VALUE}) Kit.indexError(() -> c.minutesToTarget(n));
        });
    }

    private static void eating() {
        Kit.test(46, "willBeEaten", () -> {
            NoodleCanal c = Kit.canal("canal 4;barge 0 1 9 4;order 1 1 2 5;order 1 1 1 2;order 0 1 1 9;");
            Kit.same(c.willBeEaten(0), false);
            c.take(0, 0);
            Kit.same(c.willBeEaten(0), false);
            c.sail(0, 1);
            Kit.same(c.willBeEaten(0), true);
            Kit.same(c.willBeEaten(1), false);
            c.passMinutes(2);
            Kit.same(c.isEaten(0), true);
            Kit.same(c.willBeEaten(0), true);
            Kit.same(c.willBeEaten(1), false);
        });
        Kit.test(46, "minutes beyond 9999 do not pass", () -> {
            NoodleCanal c = Kit.late("canal 3;barge 0 1 9 4;", 3);
            c.makeOrder(0, 1, 3, 9);
            c.makeOrder(0, 1, 4, 9);
            c.take(0, 0);
            Kit.same(c.willBeEaten(0), true);
            c.drop(0);
            c.take(0, 1);
            Kit.same(c.willBeEaten(1), false);
            c.passMinutes(3);
            Kit.same(c.willBeEaten(1), false);
            Kit.same(c.pullsLeft(1), 1);
        });
        Kit.test(46, "no such order", () -> {
            NoodleCanal c = Kit.canal(BRIDGES);
            for (int n : new int[] {-1, 3, 30, Integer.MIN_VALUE, Integer.MAX_VALUE}) Kit.indexError(() -> c.willBeEaten(n));
        });
    }

    private static void coins() {
        Kit.test(47, "coinsAfter", () -> {
            NoodleCanal c = Kit.canal("canal 4;barge 0 1 9 4;order 0 1 2 5;order 1 1 1 2;order 2 1 1 200;order 2 1 1 201;");
            c.buyFlour(0, 7);
            c.take(0, 0);
            int[] due = {-7, -7, -4, -4};
            for (int n = 0; n < due.length; n++) Kit.same("after " + n, c.coinsAfter(n), due[n]);
            Kit.same(c.coinsAfter(199), -4);
            Kit.same(c.coinsAfter(200), -6);
            Kit.same(c.coins(), -7);
        });
        Kit.test(47, "minutes beyond 9999 do not pass", () -> {
            NoodleCanal c = Kit.late("canal 4;barge 0 1 9 4;", 2);
            c.makeOrder(0, 1, 1, 2);
            c.makeOrder(0, 1, 1, 3);
            Kit.same(c.coinsAfter(1), 0);
            Kit.same(c.coinsAfter(2), -2);
            Kit.same(c.coinsAfter(3), -2);
            Kit.same(c.coinsAfter(200), -2);
            Kit.same(c.minute(), 9998);
        });
        Kit.test(47, "minutes out of range", () -> {
            NoodleCanal c = Kit.canal(BRIDGES);
            for (int n : new int[] {-1, 201, Integer.MIN_VALUE, Integer.MAX_VALUE}) Kit.argumentError(() -> c.coinsAfter(n));
        });
    }

    private static void nearest() {
        Kit.test(48, "nearestBarge", () -> {
            NoodleCanal c = Kit.canal("canal 6;lock 1 9;barge 0 1 0 0;barge 4 1 0 0;barge 4 1 0 0;order 1 1 1 1;order 2 1 1 9;order 5 1 1 9;order 4 1 1 9;");
            Kit.same(c.nearestBarge(0), 0);
            Kit.same(c.nearestBarge(1), 1);
            Kit.same(c.nearestBarge(2), 1);
            Kit.same(c.nearestBarge(3), 1);
            c.passMinutes(1);
            Kit.same(c.expiredOrders(), 1);
            Kit.same(c.nearestBarge(0), 0);
            c.sail(2, 2);
            c.passMinutes(1);
            Kit.same(c.nearestBarge(1), 2);
        });
        Kit.test(48, "its place counts, even in a lock", () -> {
            NoodleCanal c = Kit.canal("canal 6;lock 1 2;barge 4 1 0 0;barge 1 1 0 0;order 2 1 1 9;order 0 1 1 9;");
            c.sail(1, 3);
            c.passMinutes(1);
            Kit.same(c.bargeInLock(1), 1);
            Kit.same(c.nearestBarge(0), 0);
            Kit.same(c.nearestBarge(1), 1);
        });
        Kit.test(48, "no such order", () -> {
            NoodleCanal c = Kit.canal(BRIDGES);
            for (int n : new int[] {-1, 3, 30, Integer.MIN_VALUE, Integer.MAX_VALUE}) Kit.indexError(() -> c.nearestBarge(n));
        });
    }

    private static void nothingChanges() {
        Kit.test(47, "forecasts change nothing", () -> {
            NoodleCanal c = new NoodleCanal();
            c.take(1, 0);
            c.sail(0, 5);
            c.passMinutes(2);
            String before = Kit.look(c);
            c.coinsAfter(200);
            c.minutesToTarget(0);
            c.willBeEaten(0);
            c.nearestBarge(0);
            c.sailObstacle(0, 5);
            c.journeyTime(0, 5);
            Kit.same(Kit.look(c), before);
        });
        Kit.test(45, "what is forecast comes", () -> {
            NoodleCanal c = new NoodleCanal();
            Kit.script(c, "take 1 0;take 0 2;take 0 1;sail 0 5;sail 1 0;");
            int minutes = c.minutesToTarget(0);
            int coins = c.coinsAfter(minutes);
            boolean eaten = c.willBeEaten(1);
            Kit.pass(c, minutes);
            Kit.same(c.placeOf(0), 5);
            Kit.same(c.coins(), coins);
            Kit.same(c.isEaten(1), eaten);
            c.undo();
            c.passMinutes(minutes - 1);
            Kit.same(c.placeOf(0) == 5, false);
        });
    }
}
