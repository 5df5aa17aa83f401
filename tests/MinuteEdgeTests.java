/** Sentences of "Terms" on what happens when a minute passes, and promise 56. */
final class MinuteEdgeTests {
    static void run() {
        order();
        moving();
        pulling();
        serving();
        expiring();
        counting();
        passMinutes();
    }

    /** The barges behind each minute: place, and behind a colon the time in a lock. */
    private static void travel(NoodleCanal c, String... due) {
        for (String line : due) {
            c.passMinutes(1);
            StringBuilder s = new StringBuilder();
            for (int b = 0; b < c.bargeCount(); b++) {
                s.append(b > 0 ? " " : "").append(c.placeOf(b));
                if (c.timeInLock(b) > 0) s.append(':').append(c.timeInLock(b));
            }
            Kit.same("behind minute " + (c.minute() - 1), s.toString(), line);
        }
    }

    private static void order() {
        Document.edge(0, "When a minute passes, the following happens in this order:", () -> {
            NoodleCanal arriving = Kit.canal("canal 3;barge 0 1 9 9;order 1 1 1 1;order 0 1 1 9;");
            arriving.take(0, 0);
            arriving.sail(0, 1);
            Kit.same("moved, pulled and served before the deadline", arriving.passMinutes(1), 1);
            Kit.same(arriving.expiredOrders(), 0);
            NoodleCanal leaving = Kit.canal("canal 3;barge 0 1 9 9;order 0 1 1 1;");
            leaving.take(0, 0);
            leaving.sail(0, 1);
            Kit.same("moved away before serving", leaving.passMinutes(1), 0);
            Kit.same(leaving.expiredOrders(), 1);
            Kit.same("pulled before it expired", leaving.pullsLeft(0), 0);
            Kit.same(leaving.flour(0), 8);
        });
    }

    private static void moving() {
        Document.edge(0, "Each barge that sails, in ascending order, moves", () -> {
            NoodleCanal c = Kit.canal("canal 3;lock 0 9;barge 1 1 0 0;barge 0 1 0 0;barge 0 1 0 0;");
            c.sail(2, 1);
            c.sail(1, 1);
            c.sail(0, 0);
            travel(c, "1:9 0 0");
            Kit.same("one that does not sail", c.targetOf(2), 1);
            NoodleCanal still = Kit.canal("canal 3;barge 0 1 0 0;barge 2 1 0 0;");
            travel(still, "0 2", "0 2");
        });
        Document.edge(0, "if it is in a lock, its remaining time decreases by 1, and if this is 0 then, it leaves the lock and is at the next place toward its target", () -> {
            NoodleCanal c = Kit.canal("canal 3;lock 0 1;lock 1 2;barge 0 1 0 0;barge 2 1 0 0;");
            c.sail(0, 1);
            c.sail(1, 0);
            travel(c, "0:1 2:2", "1 2:1", "1 1", "1 1:1", "1 0");
            Kit.same("both locks are free", c.bargeInLock(0) + c.bargeInLock(1), -2);
        });
        Document.edge(0, "if this section has no lock, the barge is at the next place at once", () -> {
            NoodleCanal c = Kit.canal("canal 4;barge 0 1 0 0;barge 3 1 0 0;");
            c.sail(0, 3);
            c.sail(1, 0);
            travel(c, "1 2", "2 1", "3 0", "3 0");
        });
        Document.edge(0, "if it has a lock with no barge in it, the barge enters the lock, and its remaining time is the waiting time", () -> {
            for (int wait = 1; wait <= 9; wait++) {
                NoodleCanal c = Kit.canal("canal 3;lock 1 " + wait + ";barge 1 1 0 0;barge 2 1 0 0;");
                c.sail(0, 2);
                travel(c, "1:" + wait + " 2");
                NoodleCanal down = Kit.canal("canal 3;lock 1 " + wait + ";barge 1 1 0 0;barge 2 1 0 0;");
                down.sail(1, 1);
                travel(down, "1 2:" + wait);
            }
        });
        Document.edge(0, "if another barge is in the lock, nothing happens", () -> {
            NoodleCanal later = Kit.canal("canal 3;lock 0 2;barge 0 1 0 0;barge 1 1 0 0;");
            later.sail(0, 1);
            later.sail(1, 0);
            // Barge 1 moves behind barge 0, so the lock is free for it in the minute in which barge 0 leaves.
            travel(later, "0:2 1", "0:1 1", "1 1:2", "1 1:1", "1 0");
            NoodleCanal earlier = Kit.canal("canal 3;lock 0 2;barge 1 1 0 0;barge 0 1 0 0;");
            earlier.sail(1, 1);
            earlier.passMinutes(1);
            earlier.sail(0, 0);
            // Barge 0 moves before barge 1, so it finds the lock free one minute later.
            travel(earlier, "1 0:1", "1 1", "1:2 1", "1:1 1", "0 1");
        });
    }

    private static void pulling() {
        Document.edge(0, "and the barge has at least as many units of flour as the order has bowls, so many units are used up", () -> {
            for (int bowls = 1; bowls <= 4; bowls++) {
                for (int flour = bowls - 1; flour <= bowls + 1; flour++) {
                    NoodleCanal c = Kit.canal("canal 3;barge 0 1 " + flour + " 0;order 1 " + bowls + " 2 9;");
                    c.take(0, 0);
                    c.passMinutes(1);
                    boolean enough = flour >= bowls;
                    String what = bowls + " bowls, flour " + flour;
                    Kit.same(what, c.flour(0), enough ? flour - bowls : flour);
                    Kit.same(what, c.pullsLeft(0), enough ? 1 : 2);
                    Kit.same(what, c.flourNeeded(0), enough ? 0 : bowls);
                }
            }
        });
        Document.edge(0, "if this order was not begun", () -> {
            NoodleCanal c = Kit.canal("canal 3;barge 0 1 8 0;order 1 4 3 99;");
            c.take(0, 0);
            for (int left = 2; left >= 0; left--) {
                c.passMinutes(1);
                Kit.same("used once", c.flour(0), 4);
                Kit.same(c.pullsLeft(0), left);
            }
            c.passMinutes(1);
            Kit.same("nothing more when it is ready", c.flour(0), 4);
        });
        Document.edge(0, "the order is begun with as many pulls left as its pulls", () -> {
            for (int pulls = 1; pulls <= 6; pulls++) {
                NoodleCanal c = Kit.canal("canal 3;barge 0 1 9 0;order 1 1 " + pulls + " 99;");
                c.take(0, 0);
                c.passMinutes(1);
                Kit.same(pulls + " pulls", c.pullsLeft(0), pulls - 1);
                c.drop(0);
                c.take(0, 0);
                c.passMinutes(1);
                Kit.same(pulls + " pulls, begun anew", c.pullsLeft(0), pulls - 1);
            }
        });
        Document.edge(0, "pulls for the first order of its queue", () -> {
            NoodleCanal c = Kit.canal("canal 3;barge 0 1 3 0;barge 0 1 9 0;order 1 4 1 99;order 1 1 1 99;order 1 1 1 99;");
            c.take(0, 0);
            c.take(0, 1);
            c.take(1, 2);
            c.passMinutes(3);
            Kit.same("the first one has not enough flour", c.pullsLeft(0), 1);
            Kit.same("the second one waits", c.pullsLeft(1), 1);
            Kit.same("another barge does not", c.isReady(2), true);
            c.drop(0);
            c.passMinutes(1);
            Kit.same("now it is the first one", c.isReady(1), true);
        });
        Document.edge(0, "If it is begun then, the pulls left decrease by 1, and if they are 0 then, the order is ready.", () -> {
            NoodleCanal c = Kit.canal("canal 3;barge 0 1 9 0;order 1 1 1 99;order 1 1 6 99;");
            c.take(0, 0);
            c.take(0, 1);
            c.passMinutes(1);
            Kit.same("one pull: ready in the minute in which it is begun", c.isReady(0), true);
            Kit.same("one order a minute", c.pullsLeft(1), 6);
            for (int left = 5; left >= 0; left--) {
                Kit.same(c.isReady(1), false);
                c.passMinutes(1);
                Kit.same(c.pullsLeft(1), left);
            }
            Kit.same(c.isReady(1), true);
            Kit.same(c.queueLength(0), 0);
        });
    }

    private static void serving() {
        Document.edge(0, "if the barge has at least as many clean pairs of chopsticks as the order has bowls, the order is eaten", () -> {
            for (int bowls = 1; bowls <= 4; bowls++) {
                for (int pairs = bowls - 1; pairs <= bowls + 1; pairs++) {
                    NoodleCanal c = Kit.canal("canal 3;barge 0 1 9 " + pairs + ";order 0 " + bowls + " 1 9;");
                    c.take(0, 0);
                    boolean enough = pairs >= bowls;
                    String what = bowls + " bowls, pairs " + pairs;
                    Kit.same(what, c.passMinutes(1), enough ? 1 : 0);
                    Kit.same(what, c.isEaten(0), enough);
                    Kit.same(what, c.isReady(0), !enough);
                    Kit.same(what, c.cleanPairs(0), enough ? pairs - bowls : pairs);
                    Kit.same(what, c.usedPairs(0), enough ? bowls : 0);
                    Kit.same(what, c.coins(), enough ? 4 * bowls : 0);
                }
            }
        });
        Document.edge(0, "Each barge that is not in a lock, in ascending order, serves", () -> {
            NoodleCanal c = Kit.canal("canal 3;lock 0 2;barge 0 1 9 9;order 0 1 1 9;order 0 1 1 9;");
            c.take(0, 0);
            c.sail(0, 1);
            c.passMinutes(1);
            Kit.same("in the lock at its place", c.isReady(0), true);
            c.passMinutes(2);
            Kit.same("behind the lock, away from its place", c.isReady(0), true);
            c.sail(0, 0);
            c.passMinutes(2);
            Kit.same("in the lock again", c.isReady(0), true);
            c.passMinutes(1);
            Kit.same("in the minute in which it leaves the lock", c.isEaten(0), true);
        });
        Document.edge(0, "for each of its ready orders for its place, in ascending order", () -> {
            NoodleCanal c = Kit.canal("canal 3;barge 0 1 99 5;order 1 2 1 9;order 2 1 1 9;order 1 4 1 9;order 1 3 1 9;");
            for (int order = 3; order >= 0; order--) c.take(0, order);
            c.passMinutes(4);
            c.sail(0, 1);
            Kit.same("orders 0 and 3, as order 2 wants more than the three pairs left", c.passMinutes(1), 2);
            Kit.same(c.isEaten(0), true);
            Kit.same(c.isReady(1), true);
            Kit.same(c.isReady(2), true);
            Kit.same(c.isEaten(3), true);
            Kit.same(c.cleanPairs(0), 0);
        });
        Document.edge(0, "so many clean pairs become used pairs at the place, and the price is paid", () -> {
            NoodleCanal c = Kit.canal("canal 3;barge 2 1 9 4;barge 0 1 9 9;order 2 4 6 9;");
            c.take(0, 0);
            c.passMinutes(5);
            Kit.same(c.usedPairs(2) + c.coins() + c.eatenBowls(), 0);
            c.passMinutes(1);
            Kit.same(c.usedPairs(2), 4);
            Kit.same(c.usedPairs(0) + c.usedPairs(1), 0);
            Kit.same(c.cleanPairs(0), 0);
            Kit.same(c.cleanPairs(1), 9);
            Kit.same("no dirty pairs yet", c.dirtyPairs(0), 0);
            Kit.same(c.coins(), 36);
        });
    }

    private static void expiring() {
        Document.edge(0, "whose deadline is this minute expires, and 2 coins are lost", () -> {
            for (int minutes : new int[] {1, 2, 60}) {
                NoodleCanal c = Kit.canal("canal 3;barge 0 1 0 0;order 1 1 1 " + minutes + ";");
                if (minutes > 1) c.passMinutes(minutes - 1);
                Kit.same("before minute " + (minutes - 1), c.isOpen(0), true);
                Kit.same(c.coins(), 0);
                c.passMinutes(1);
                Kit.same("behind minute " + (minutes - 1), c.isOpen(0), false);
                Kit.same(c.expiredOrders(), 1);
                Kit.same(c.coins(), -2);
                c.passMinutes(1);
                Kit.same("only once", c.coins(), -2);
            }
        });
        Document.edge(0, "Each order that is not eaten or expired", () -> {
            NoodleCanal c = Kit.canal("canal 3;barge 0 1 9 9;barge 0 1 0 0;order 0 1 3 3;order 0 1 4 3;order 1 1 1 3;order 1 1 1 3;");
            c.take(0, 0);
            c.take(1, 2);
            c.passMinutes(3);
            Kit.same("eaten in the minute of its deadline", c.isEaten(0), true);
            Kit.same("two open ones and a taken one", c.expiredOrders(), 3);
            Kit.same(c.coins(), 6 - 3 * 2);
            NoodleCanal ready = Kit.canal("canal 3;barge 0 1 9 9;order 1 1 2 2;");
            ready.take(0, 0);
            ready.passMinutes(2);
            Kit.same("a ready one", ready.expiredOrders(), 1);
            Kit.same(ready.isReady(0), false);
        });
        Document.edge(0, "It does not belong to a barge any more.", () -> {
            NoodleCanal c = Kit.canal("canal 3;barge 0 1 9 9;order 1 1 1 3;order 1 1 6 3;order 1 1 6 9;");
            for (int order = 0; order < 3; order++) c.take(0, order);
            c.passMinutes(2);
            Kit.same(c.readyCount(0) * 10 + c.queueLength(0), 12);
            c.passMinutes(1);
            Kit.same(c.bargeOf(0) + c.bargeOf(1), -2);
            Kit.same(c.readyCount(0) * 10 + c.queueLength(0), 1);
            Kit.same(c.queuedOrder(0, 0), 2);
            Kit.same("pulled from the next minute on", c.pullsLeft(2), 6);
            c.passMinutes(1);
            Kit.same(c.pullsLeft(2), 5);
            c.sail(0, 1);
            Kit.same("not served any more", c.passMinutes(1), 0);
        });
    }

    private static void counting() {
        Document.edge(0, "The present minute becomes the following one.", () -> {
            NoodleCanal c = new NoodleCanal();
            for (int minute = 1; minute <= 3; minute++) {
                c.passMinutes(1);
                Kit.same(c.minute(), minute);
            }
            c.passMinutes(60);
            Kit.same(c.minute(), 63);
        });
        Document.edge(0, "Minutes are numbered from 0 to 9999.", () -> {
            NoodleCanal c = Kit.late("canal 3;barge 0 1 9 9;", 1);
            c.makeOrder(1, 1, 1, 1);
            c.makeOrder(1, 1, 1, 2);
            c.passMinutes(1);
            Kit.same("expired in minute 9999", c.expiredOrders(), 1);
            Kit.same(c.isOpen(1), true);
            Kit.stateError(() -> c.passMinutes(1));
            Kit.same("minute 10000 does not pass", c.isOpen(1), true);
        });
        Document.edge(0, "The present minute is the next one to pass.", () -> {
            NoodleCanal c = Kit.canal("canal 3;barge 0 1 0 0;order 1 1 1 1;order 1 1 1 2;");
            Kit.same("minute 0 has not passed", c.expiredOrders(), 0);
            c.passMinutes(1);
            Kit.same("minute 0 has passed", c.expiredOrders(), 1);
            Kit.same("minute 1 has not", c.minute(), 1);
        });
    }

    private static void passMinutes() {
        Document.edge(56, "`minutes`: 1 to 60", () -> {
            Kit.argumentError(() -> new NoodleCanal().passMinutes(0));
            for (int minutes : new int[] {1, 2, 59, 60}) {
                NoodleCanal c = new NoodleCanal();
                c.passMinutes(minutes);
                Kit.same(c.minute(), minutes);
            }
            Kit.argumentError(() -> new NoodleCanal().passMinutes(61));
        });
        Document.edge(56, "Returns the number of orders that are eaten in them.", () -> {
            NoodleCanal c = Kit.canal("canal 3;barge 0 1 99 99;barge 0 1 9 9;order 1 4 1 9;order 1 4 1 9;order 1 4 1 9;order 1 4 1 9;order 0 1 1 9;");
            Kit.same("none", c.passMinutes(1), 0);
            for (int order = 0; order < 4; order++) c.take(0, order);
            Kit.same("ready, not eaten", c.passMinutes(4), 0);
            c.sail(0, 1);
            c.take(1, 4);
            Kit.same("orders, not bowls, of all barges", c.passMinutes(60), 5);
            Kit.same("not those eaten before", c.passMinutes(60), 0);
        });
        Document.edge(56, "Throws `IllegalArgumentException` if minutes is out of range", () -> {
            Kit.argumentRefused(() -> Kit.busy(new NoodleCanal()), c -> c.passMinutes(0), c -> c.passMinutes(-1), c -> c.passMinutes(61), c -> c.passMinutes(62));
            Kit.argumentRefused(() -> Kit.busy(new NoodleCanal()), c -> c.passMinutes(Integer.MIN_VALUE), c -> c.passMinutes(Integer.MAX_VALUE));
            Kit.argumentRefused(() -> Kit.late("canal 3;barge 0 1 0 0;", 0), c -> c.passMinutes(0), c -> c.passMinutes(61));
        });
        Document.edge(56, "Throws `IllegalStateException` if a minute beyond 9999 would pass", () -> {
            String text = "canal 3;barge 0 1 9 9;order 1 1 1 500;";
            for (int left : new int[] {0, 1, 59}) {
                Kit.Made made = () -> Kit.busy(Kit.late(text, left));
                Kit.stateRefused(made, c -> c.passMinutes(left + 1), c -> c.passMinutes(60));
                if (left > 0) {
                    NoodleCanal c = made.get();
                    c.passMinutes(left);
                    Kit.same(c.minute(), 10000);
                }
            }
            NoodleCanal c = Kit.late(text, 60);
            c.passMinutes(60);
            Kit.same(c.minute(), 10000);
        });
    }
}
