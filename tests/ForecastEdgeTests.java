/** Promises 43 to 48, a test for each sentence with a boundary. */
final class ForecastEdgeTests {
    private static final String ONE = "canal 3;barge 0 1 0 0;order 2 1 1 9;";

    static void run() {
        obstacles();
        journeys();
        minutesToTarget();
        willBeEaten();
        coinsAfter();
        nearest();
        Document.edge(0, "---- reasons and forecasts; these methods change nothing.", () -> {
            Kit.Made made = () -> {
                NoodleCanal c = Kit.busy(Kit.canal("canal 4;lock 0 2;bridge 2 1;barge 0 2 9 9;barge 1 1 9 9;order 1 1 2 9;order 3 1 1 5;order 0 1 1 9;"));
                c.sail(0, 2);
                c.take(0, 0);
                c.take(1, 1);
                c.passMinutes(1);
                return c;
            };
            Kit.changesNothing(made, c -> c.sailObstacle(1, 3), c -> c.journeyTime(0, 3), c -> c.minutesToTarget(0), c -> c.willBeEaten(0));
            Kit.changesNothing(made, c -> c.coinsAfter(0), c -> c.coinsAfter(200), c -> c.nearestBarge(2));
        });
    }

    private static void obstacles() {
        Document.edge(43, "Returns 0 if it can; otherwise the first of these that holds: 1 if it is in a lock, 2 if the place is its target already", () -> {
            NoodleCanal c = Kit.canal("canal 4;lock 0 2;bridge 2 1;barge 0 5 0 0;");
            Kit.same("its target at first", c.sailObstacle(0, 0), 2);
            c.sail(0, 1);
            Kit.same("its place", c.sailObstacle(0, 0), 0);
            Kit.same("its target", c.sailObstacle(0, 1), 2);
            for (int minute = 0; minute < 2; minute++) {
                c.passMinutes(1);
                for (int place = 0; place < 4; place++) Kit.same("in the lock, to " + place, c.sailObstacle(0, place), 1);
            }
            c.passMinutes(1);
            int[] due = {0, 2, 0, 3};
            for (int place = 0; place < 4; place++) Kit.same("behind the lock, to " + place, c.sailObstacle(0, place), due[place]);
        });
        Document.edge(43, "has a bridge with a clearance less than its height", () -> {
            for (int clearance = 1; clearance <= 9; clearance++) {
                for (int height = 1; height <= 9; height++) {
                    NoodleCanal c = Kit.canal("canal 3;bridge 0 " + clearance + ";barge 0 " + height + " 0 0;barge 1 " + height + " 0 0;");
                    int due = clearance < height ? 3 : 0;
                    String what = "clearance " + clearance + ", height " + height;
                    Kit.same(what, c.sailObstacle(0, 1), due);
                    Kit.same(what, c.sailObstacle(1, 0), due);
                }
            }
            Kit.same("no bridge", Kit.canal("canal 3;barge 0 9 0 0;").sailObstacle(0, 2), 0);
        });
        Document.edge(43, "3 if a section on the way from its place to this place", () -> {
            NoodleCanal c = Kit.canal("canal 6;bridge 0 1;bridge 4 1;barge 2 2 0 0;barge 0 2 0 0;barge 5 2 0 0;");
            int[][] due = {{3, 0, 2, 0, 0, 3}, {2, 3, 3, 3, 3, 3}, {3, 3, 3, 3, 3, 2}};
            for (int barge = 0; barge < 3; barge++) {
                for (int place = 0; place < 6; place++) Kit.same("barge " + barge + " to " + place, c.sailObstacle(barge, place), due[barge][place]);
            }
        });
        Document.edge(43, "Throws `IndexOutOfBoundsException` if there is no such barge or place", () -> {
            Kit.Made made = () -> Kit.busy(Kit.canal(ONE));
            Kit.same(made.get().sailObstacle(0, 2), 0);
            for (int n : new int[] {-1, Integer.MIN_VALUE, Integer.MAX_VALUE}) Kit.indexRefused(made, c -> c.sailObstacle(n, 1), c -> c.sailObstacle(0, n), c -> c.sailObstacle(n, n));
            Kit.indexRefused(made, c -> c.sailObstacle(1, 0), c -> c.sailObstacle(0, 3), c -> c.sailObstacle(1, 3));
        });
    }

    private static void journeys() {
        Document.edge(44, "Returns 1 minute for each section on the way, plus the waiting times of all locks on it.", () -> {
            NoodleCanal open = Kit.canal("canal 16;barge 0 1 0 0;");
            NoodleCanal full = Kit.canal("canal 16;" + locks() + "barge 0 1 0 0;");
            for (int from = 0; from < 16; from++) {
                for (int to = 0; to < 16; to++) {
                    if ((from + to) % 3 != 0) continue;
                    Kit.same(from + " to " + to, open.journeyTime(from, to), Math.abs(from - to));
                    Kit.same(from + " to " + to + " through locks", full.journeyTime(from, to), 10 * Math.abs(from - to));
                }
            }
            NoodleCanal beside = Kit.canal("canal 4;lock 0 9;lock 1 1;lock 2 9;barge 0 1 0 0;");
            Kit.same("the locks beside the way", beside.journeyTime(1, 2), 2);
            Kit.same("the locks beside the way down", beside.journeyTime(2, 1), 2);
            Kit.same("no way", beside.journeyTime(1, 1), 0);
            beside.sail(0, 1);
            beside.passMinutes(1);
            Kit.same("without other barges", beside.journeyTime(0, 1), 10);
        });
        Document.edge(44, "Throws `IndexOutOfBoundsException` if there is no such place", () -> {
            Kit.Made made = () -> Kit.busy(Kit.canal(ONE));
            Kit.same(made.get().journeyTime(0, 2), 2);
            for (int n : new int[] {-1, 3, 4, Integer.MIN_VALUE, Integer.MAX_VALUE}) Kit.indexRefused(made, c -> c.journeyTime(n, 0), c -> c.journeyTime(0, n), c -> c.journeyTime(n, n));
            Kit.same(Kit.canal("canal 16;barge 0 1 0 0;").journeyTime(15, 0), 15);
            Kit.indexRefused(() -> Kit.canal("canal 16;barge 0 1 0 0;"), c -> c.journeyTime(16, 0), c -> c.journeyTime(0, 16));
        });
    }

    private static String locks() {
        StringBuilder s = new StringBuilder();
        for (int i = 0; i < 15; i++) s.append("lock ").append(i).append(" 9;");
        return s.toString();
    }

    /** At minute 8, the longest journey that a search over canals has found: barge 1 has 186 minutes to place 15. */
    private static NoodleCanal longestJourney() {
        NoodleCanal c = Kit.canal("canal 16;" + locks() + "barge 13 1 0 0;barge 0 1 9 9;barge 11 1 0 0;barge 0 1 0 0;barge 12 1 0 0;order 15 1 1 194;order 15 1 1 193;");
        c.sail(0, 2);
        c.passMinutes(7);
        c.sail(2, 3);
        c.sail(3, 15);
        c.passMinutes(1);
        c.sail(1, 15);
        c.sail(4, 0);
        c.take(1, 0);
        c.take(1, 1);
        return c;
    }

    private static void minutesToTarget() {
        Document.edge(45, "Returns the smallest number of minutes, 0 to 200, after which its place is its target", () -> {
            NoodleCanal c = Kit.canal("canal 4;lock 1 1;barge 0 1 0 0;");
            Kit.same("at its target", c.minutesToTarget(0), 0);
            c.sail(0, 1);
            Kit.same("one section", c.minutesToTarget(0), 1);
            c.sail(0, 3);
            for (int left = 4; left >= 0; left--) {
                Kit.same("at minute " + c.minute(), c.minutesToTarget(0), left);
                c.passMinutes(1);
            }
            Kit.same("long at its target", c.minutesToTarget(0), 0);
            NoodleCanal longest = longestJourney();
            Kit.same("the longest journey", longest.minutesToTarget(1), 186);
            Kit.pass(longest, 185);
            Kit.same(longest.placeOf(1), 14);
            longest.passMinutes(1);
            Kit.same(longest.placeOf(1), 15);
        });
        Document.edge(45, "-1 if there is none", () -> {
            NoodleCanal c = Kit.late("canal 4;lock 0 2;barge 0 1 0 0;", 2);
            c.sail(0, 1);
            Kit.same("three minutes wanted, two left", c.minutesToTarget(0), -1);
            c.passMinutes(2);
            Kit.same("none left", c.minutesToTarget(0), -1);
        });
        Document.edge(45, "Minutes beyond minute 9999 do not pass.", () -> {
            NoodleCanal c = Kit.late("canal 4;barge 0 1 0 0;", 2);
            c.sail(0, 1);
            Kit.same("one minute more than wanted", c.minutesToTarget(0), 1);
            c.sail(0, 2);
            Kit.same("as many as wanted", c.minutesToTarget(0), 2);
            c.sail(0, 3);
            Kit.same("one minute less", c.minutesToTarget(0), -1);
            c.passMinutes(2);
            c.sail(0, 2);
            Kit.same("stopped at its place", c.minutesToTarget(0), 0);
            c.sail(0, 1);
            Kit.same("no minute left", c.minutesToTarget(0), -1);
        });
        Document.edge(45, "Throws `IndexOutOfBoundsException` if there is no such barge", () -> {
            Kit.Made made = () -> Kit.busy(Kit.canal(ONE));
            for (int n : new int[] {-1, 1, 5, Integer.MIN_VALUE, Integer.MAX_VALUE}) Kit.indexRefused(made, c -> c.minutesToTarget(n));
            String five = "canal 3;" + "barge 0 1 0 0;".repeat(5);
            Kit.same(Kit.canal(five).minutesToTarget(4), 0);
            Kit.indexRefused(() -> Kit.canal(five), c -> c.minutesToTarget(5));
        });
    }

    private static void willBeEaten() {
        Document.edge(46, "Returns whether it is eaten, or will be within 200 minutes.", () -> {
            NoodleCanal c = Kit.canal("canal 3;barge 0 1 9 1;order 0 1 1 9;order 0 1 1 9;order 1 1 1 9;order 0 1 1 9;");
            Kit.same("open", c.willBeEaten(0), false);
            c.take(0, 0);
            c.take(0, 1);
            Kit.same("in the next minute", c.willBeEaten(0), true);
            Kit.same("without pairs", c.willBeEaten(1), false);
            c.passMinutes(1);
            Kit.same("eaten", c.willBeEaten(0), true);
            c.passMinutes(60);
            Kit.same("eaten long ago", c.willBeEaten(0), true);
            Kit.same("expired", c.willBeEaten(1), false);
            NoodleCanal longest = longestJourney();
            Kit.same("in the minute of its deadline", longest.willBeEaten(0), true);
            Kit.same("expired the minute before", longest.willBeEaten(1), false);
            Kit.pass(longest, 185);
            Kit.same(longest.isEaten(0), false);
            Kit.same(longest.willBeEaten(0), true);
            longest.passMinutes(1);
            Kit.same(longest.isEaten(0), true);
        });
        Document.edge(46, "Minutes beyond minute 9999 do not pass.", () -> {
            NoodleCanal c = Kit.late("canal 3;barge 0 1 9 9;", 2);
            for (int pulls = 1; pulls <= 3; pulls++) c.makeOrder(0, 1, pulls, 500);
            for (int order = 0; order < 3; order++) {
                c.take(0, order);
                Kit.same(order + 1 + " pulls", c.willBeEaten(order), order < 2);
                c.undo();
            }
            c.take(0, 0);
            c.passMinutes(2);
            c.take(0, 1);
            Kit.same("eaten", c.willBeEaten(0), true);
            Kit.same("no minute left", c.willBeEaten(1), false);
        });
        Document.edge(46, "Throws `IndexOutOfBoundsException` if there is no such order", () -> {
            Kit.Made made = () -> Kit.busy(Kit.canal(ONE));
            Kit.same(made.get().willBeEaten(0), false);
            for (int n : new int[] {-1, 1, 30, Integer.MIN_VALUE, Integer.MAX_VALUE}) Kit.indexRefused(made, c -> c.willBeEaten(n));
            Kit.indexRefused(() -> Kit.canal("canal 3;barge 0 1 0 0;"), c -> c.willBeEaten(0));
        });
    }

    private static void coinsAfter() {
        Document.edge(47, "`minutes`: 0 to 200", () -> {
            NoodleCanal c = Kit.canal("canal 3;barge 0 1 0 0;order 1 1 1 1;order 1 1 1 199;order 1 1 1 200;order 1 1 1 201;");
            Kit.argumentError(() -> c.coinsAfter(-1));
            Kit.same(c.coinsAfter(0), 0);
            Kit.same(c.coinsAfter(1), -2);
            Kit.same(c.coinsAfter(198), -2);
            Kit.same(c.coinsAfter(199), -4);
            Kit.same(c.coinsAfter(200), -6);
            Kit.argumentError(() -> c.coinsAfter(201));
        });
        Document.edge(47, "Returns the coins then.", () -> {
            NoodleCanal c = Kit.canal("canal 3;lock 0 1;barge 0 1 9 9;order 1 1 1 9;order 0 1 1 2;");
            c.buyFlour(0, 5);
            c.take(0, 0);
            c.sail(0, 1);
            int[] due = {-5, -5, -3, -3};
            for (int minutes = 0; minutes < due.length; minutes++) Kit.same("after " + minutes, c.coinsAfter(minutes), due[minutes]);
            for (int minute = 0; minute < due.length; minute++) {
                Kit.same("at minute " + minute, c.coins(), due[minute]);
                c.passMinutes(1);
            }
        });
        Document.edge(47, "Minutes beyond minute 9999 do not pass.", () -> {
            NoodleCanal c = Kit.late("canal 3;barge 0 1 0 0;", 2);
            for (int minutes = 1; minutes <= 3; minutes++) c.makeOrder(0, 1, 1, minutes);
            int[] due = {0, -2, -4, -4, -4};
            for (int minutes = 0; minutes < due.length; minutes++) Kit.same("after " + minutes, c.coinsAfter(minutes), due[minutes]);
            Kit.same(c.coinsAfter(200), -4);
            c.passMinutes(2);
            Kit.same("no minute left", c.coinsAfter(200), -4);
        });
        Document.edge(47, "Throws `IllegalArgumentException` if minutes is out of range", () -> {
            Kit.Made made = () -> Kit.busy(Kit.canal(ONE));
            for (int n : new int[] {-1, -2, 201, 202, Integer.MIN_VALUE, Integer.MAX_VALUE}) Kit.argumentRefused(made, c -> c.coinsAfter(n));
        });
    }

    private static void nearest() {
        Document.edge(48, "Returns the number of the barge for which journeyTime from its place to the place of the order is smallest", () -> {
            NoodleCanal c = Kit.canal("canal 6;lock 1 1;lock 2 2;barge 1 1 0 0;barge 5 1 0 0;order 2 1 1 9;order 3 1 1 9;order 4 1 1 9;order 1 1 1 9;order 5 1 1 9;");
            // From 1: 2, 5, 6, 0, 7 minutes; from 5: 5, 2, 1, 7, 0 minutes.
            int[] due = {0, 1, 1, 0, 1};
            for (int order = 0; order < 5; order++) Kit.same("order " + order, c.nearestBarge(order), due[order]);
            Kit.same("one barge alone", Kit.canal(ONE).nearestBarge(0), 0);
            NoodleCanal inLock = Kit.canal("canal 4;lock 1 1;barge 1 1 0 0;barge 3 1 0 0;order 2 1 1 9;order 2 1 1 1;");
            inLock.sail(0, 2);
            inLock.passMinutes(1);
            Kit.same("its place is before the lock until it leaves", inLock.nearestBarge(0), 1);
            inLock.passMinutes(1);
            Kit.same("behind the lock", inLock.nearestBarge(0), 0);
            Kit.same("of an expired order", inLock.nearestBarge(1), 0);
        });
        Document.edge(48, "the smallest number if several are equal", () -> {
            NoodleCanal c = Kit.canal("canal 5;lock 0 1;barge 0 1 0 0;barge 4 1 0 0;barge 4 1 0 0;barge 3 1 0 0;barge 3 1 0 0;order 2 1 1 9;order 4 1 1 9;order 1 1 1 9;");
            // To place 2: 3, 2, 2, 1, 1 minutes; to place 4: 5, 0, 0, 1, 1; to place 1: 2, 3, 3, 2, 2.
            Kit.same(c.nearestBarge(0), 3);
            Kit.same(c.nearestBarge(1), 1);
            Kit.same(c.nearestBarge(2), 0);
        });
        Document.edge(48, "Throws `IndexOutOfBoundsException` if there is no such order", () -> {
            Kit.Made made = () -> Kit.busy(Kit.canal(ONE));
            for (int n : new int[] {-1, 1, 30, Integer.MIN_VALUE, Integer.MAX_VALUE}) Kit.indexRefused(made, c -> c.nearestBarge(n));
            Kit.indexRefused(() -> Kit.canal("canal 3;barge 0 1 0 0;"), c -> c.nearestBarge(0));
        });
    }
}
