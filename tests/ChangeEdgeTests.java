/** Sentences of "Terms" on changes, and promises 49 to 55. */
final class ChangeEdgeTests {
    private static final int[] FAR = {-1, Integer.MIN_VALUE, Integer.MAX_VALUE};
    private static final String ONE = "canal 3;barge 0 1 0 0;order 0 1 1 9;";
    private static final String FULL = "canal 3;barge 0 1 0 0;" + "order 0 1 1 9;".repeat(30);
    private static final String LOCK = "canal 4;lock 0 2;bridge 2 1;barge 0 2 9 9;barge 1 2 9 9;order 0 4 1 9;order 1 1 1 9;order 1 1 6 9;";

    static void run() {
        changes();
        refusals();
        sail();
        makeOrder();
        take();
        drop();
        buyFlour();
        collect();
        wash();
    }

    /** Barge 0 is in the lock at place 0 with its target 1, barge 1 at place 1; 4 pairs are used at place 0. */
    private static NoodleCanal locked() {
        NoodleCanal c = Kit.busy(Kit.canal(LOCK));
        c.take(0, 0);
        c.passMinutes(1);
        c.sail(0, 1);
        c.passMinutes(1);
        Kit.same(c.timeInLock(0) * 10 + c.usedPairs(0), 24);
        return c;
    }

    private static void changes() {
        Document.edge(0, "Each call of one of them that returns normally is a change, even if nothing is different afterwards.", () -> {
            NoodleCanal c = Kit.canal(ONE);
            String before = Kit.lookAtCanal(c);
            Kit.same(c.collect(0), 0);
            Kit.same(c.undoableCount(), 1);
            Kit.same(c.wash(0), 0);
            Kit.same(c.undoableCount(), 2);
            Kit.same(c.runScript(0), 0);
            Kit.same(c.undoableCount(), 3);
            Kit.same("nothing is different", Kit.lookAtCanal(c), before);
        });
        Document.edge(0, "The methods sail, makeOrder, take, drop, buyFlour, collect, wash, passMinutes and runScript change the canal.", () -> {
            NoodleCanal c = Kit.canal(ONE);
            Kit.Call[] calls = {x -> x.sail(0, 2), x -> x.makeOrder(0, 1, 1, 9), x -> x.take(0, 0), x -> x.drop(0), x -> x.buyFlour(0, 1),
                x -> x.collect(0), x -> x.wash(0), x -> x.passMinutes(1)};
            for (int i = 0; i < calls.length; i++) {
                calls[i].on(c);
                Kit.same("changes", c.undoableCount(), i + 1);
            }
            c.undo();
            Kit.script(c, "wait 1;");
            Kit.same(c.undoableCount(), 8);
            c.undo();
            Kit.same(Kit.load(c, "x"), -1);
            c.appendText(0, 0, 0, 0, 0);
            c.writeCanal();
            c.saveSnapshot();
            c.coinsAfter(1);
            Kit.same("what is none of them", c.undoableCount(), 7);
        });
        Document.edge(0, "A call of runScript that reports a parse error is not a change.", () -> {
            NoodleCanal c = Kit.canal(ONE);
            Kit.same(Kit.script(c, "wait 1;wait 61;"), -1);
            Kit.same(c.undoableCount(), 0);
            c.collect(0);
            Kit.same(Kit.script(c, "x"), -1);
            Kit.same(c.undoableCount(), 1);
            Kit.same(c.undo(), 0);
        });
        Document.edge(0, "A script is one change, even if none of its commands is executed.", () -> {
            NoodleCanal c = Kit.canal(ONE);
            Kit.same(Kit.script(c, "drop 0;wait 1;"), 0);
            Kit.same("none executed", c.undoableCount(), 1);
            Kit.same(Kit.script(c, "repeat 5(repeat 5(););"), 0);
            Kit.same("none inside", c.undoableCount(), 2);
            Kit.same(Kit.script(c, "repeat 5(repeat 5(wait 1;););"), 25);
            Kit.same("many", c.undoableCount(), 3);
            Kit.same(Kit.script(c, "wait 1;drop 0;"), 1);
            Kit.same("stopped", c.undoableCount(), 4);
            c.undo();
            Kit.same(c.minute(), 25);
            c.undo();
            Kit.same(c.minute(), 0);
        });
        Document.edge(0, "The latest 8 changes can be undone, the latest one first.", () -> {
            for (int changes : new int[] {1, 7, 8, 9, 16, 17}) {
                NoodleCanal c = Kit.canal(ONE);
                for (int i = 0; i < changes; i++) c.passMinutes(1);
                int left = Math.min(changes, 8);
                Kit.same(c.undoableCount(), left);
                for (int undone = 1; undone <= left; undone++) {
                    Kit.same(c.undo(), left - undone);
                    Kit.same(c.minute(), changes - undone);
                }
            }
        });
        Document.edge(0, "An older change cannot be undone any more.", () -> {
            NoodleCanal c = Kit.canal(ONE);
            for (int i = 0; i < 9; i++) c.passMinutes(1);
            for (int i = 0; i < 8; i++) c.undo();
            Kit.same(c.minute(), 1);
            Kit.stateError(c::undo);
            Kit.same(c.minute(), 1);
            c.passMinutes(5);
            Kit.same(c.undo(), 0);
            Kit.stateError(c::undo);
        });
    }

    private static void refusals() {
        Document.edge(0, "A method that throws an exception changes nothing.", () -> {
            Kit.stateRefused(ChangeEdgeTests::locked, c -> c.sail(0, 1), c -> c.take(1, 0), c -> c.drop(0), c -> c.buyFlour(0, 1), c -> c.collect(0), c -> c.wash(1));
            Kit.argumentRefused(ChangeEdgeTests::locked, c -> c.makeOrder(0, 0, 1, 1), c -> c.passMinutes(0), c -> c.loadCanal(41), c -> c.runScript(41), c -> c.coinsAfter(201));
            Kit.indexRefused(ChangeEdgeTests::locked, c -> c.outputByte(7), c -> c.sail(2, 0), c -> c.journeyTime(0, 4), c -> c.nearestBarge(3));
            Kit.stateRefused(() -> Kit.canal(ONE), NoodleCanal::undo, NoodleCanal::restoreSnapshot);
        });
        Document.edge(0, "If several exceptions apply, the one listed first in the documentation of the method is thrown.", () -> {
            Kit.indexRefused(ChangeEdgeTests::locked, c -> c.sail(0, 4), c -> c.sail(2, 1), c -> c.take(0, 3), c -> c.take(2, 0));
            Kit.indexRefused(ChangeEdgeTests::locked, c -> c.buyFlour(2, 0), c -> c.buyFlour(-1, 100));
            Kit.argumentRefused(ChangeEdgeTests::locked, c -> c.buyFlour(0, 0), c -> c.buyFlour(1, 100), c -> c.buyFlour(0, -1));
            Kit.Made full = () -> Kit.canal(FULL);
            Kit.indexRefused(full, c -> c.makeOrder(3, 1, 1, 1), c -> c.makeOrder(-1, 0, 0, 0), c -> c.makeOrder(3, 5, 1, 1));
            Kit.argumentRefused(full, c -> c.makeOrder(0, 0, 1, 1), c -> c.makeOrder(0, 1, 7, 1), c -> c.makeOrder(0, 1, 1, 501));
            Kit.stateRefused(full, c -> c.makeOrder(0, 1, 1, 1));
            Kit.argumentRefused(() -> Kit.late(ONE, 0), c -> c.passMinutes(61), c -> c.passMinutes(0));
            Kit.stateRefused(() -> Kit.late(ONE, 0), c -> c.passMinutes(60));
        });
    }

    private static void sail() {
        Document.edge(49, "It can also be its place, so that it stops.", () -> {
            NoodleCanal c = Kit.canal("canal 5;barge 0 1 0 0;");
            c.sail(0, 4);
            c.passMinutes(2);
            Kit.same(c.sail(0, 2), 0);
            Kit.same(c.targetOf(0), 2);
            c.passMinutes(3);
            Kit.same(c.placeOf(0), 2);
            Kit.same("and turns", c.sail(0, 1), 1);
            c.passMinutes(1);
            Kit.same(c.placeOf(0), 1);
        });
        Document.edge(49, "Returns journeyTime from its place to the target.", () -> {
            StringBuilder s = new StringBuilder("canal 16;");
            for (int i = 0; i < 15; i++) s.append("lock ").append(i).append(" 9;");
            NoodleCanal c = Kit.canal(s + "barge 0 1 0 0;barge 15 1 0 0;");
            Kit.same("all sections", c.sail(0, 15), 150);
            Kit.same("one section", c.sail(0, 1), 10);
            Kit.same("none", c.sail(0, 0), 0);
            Kit.same("down", c.sail(1, 0), 150);
            Kit.same("one down", c.sail(1, 14), 10);
            Kit.same("its own target", c.targetOf(1), 14);
        });
        Document.edge(49, "Throws `IndexOutOfBoundsException` if there is no such barge or place", () -> {
            for (int n : FAR) Kit.indexRefused(ChangeEdgeTests::locked, c -> c.sail(n, 0), c -> c.sail(1, n), c -> c.sail(n, n), c -> c.sail(0, n));
            Kit.same(locked().sail(1, 0), 3);
            Kit.same(locked().sail(1, 2), 1);
            Kit.indexRefused(ChangeEdgeTests::locked, c -> c.sail(2, 0), c -> c.sail(1, 4), c -> c.sail(5, 0), c -> c.sail(1, 16));
        });
        Document.edge(49, "Throws `IllegalStateException` if sailObstacle(barge, place) is not 0", () -> {
            Kit.stateRefused(ChangeEdgeTests::locked, c -> c.sail(0, 0), c -> c.sail(0, 1), c -> c.sail(0, 3));
            Kit.stateRefused(ChangeEdgeTests::locked, c -> c.sail(1, 1), c -> c.sail(1, 3));
            NoodleCanal c = locked();
            for (int place = 0; place < 4; place++) {
                int to = place;
                boolean free = c.sailObstacle(1, place) == 0;
                Kit.same("to " + place, free, place == 0 || place == 2);
                if (free) Kit.same(locked().sail(1, to), c.journeyTime(1, to));
            }
        });
    }

    private static void makeOrder() {
        Document.edge(50, "Its deadline is the present minute plus the minutes minus 1.", () -> {
            NoodleCanal c = Kit.late(ONE, 1);
            Kit.same(new NoodleCanal().makeOrder(0, 1, 1, 1), 3);
            NoodleCanal early = Kit.canal(ONE);
            Kit.same(early.deadline(early.makeOrder(0, 1, 1, 1)), 0);
            Kit.same(early.deadline(early.makeOrder(0, 1, 1, 500)), 499);
            early.passMinutes(60);
            Kit.same(early.deadline(early.makeOrder(0, 1, 1, 2)), 61);
            Kit.same(c.deadline(c.makeOrder(0, 1, 1, 1)), 9999);
            Kit.same(c.deadline(c.makeOrder(0, 1, 1, 500)), 10498);
            c.passMinutes(1);
            Kit.same("when all minutes have passed", c.deadline(c.makeOrder(0, 1, 1, 1)), 10000);
        });
        Document.edge(50, "`bowls`: 1 to 4", () -> {
            for (int n : new int[] {1, 2, 3, 4}) Kit.same(n, madeOrder(n, 1, 1).bowls(0));
            for (int n : new int[] {0, 5}) Kit.argumentError(() -> madeOrder(n, 1, 1));
        });
        Document.edge(50, "`pulls`: 1 to 6", () -> {
            for (int n : new int[] {1, 2, 5, 6}) Kit.same(n, madeOrder(1, n, 1).pullsLeft(0));
            for (int n : new int[] {0, 7}) Kit.argumentError(() -> madeOrder(1, n, 1));
        });
        Document.edge(50, "`minutes`: 1 to 500", () -> {
            for (int n : new int[] {1, 2, 499, 500}) Kit.same(n - 1, madeOrder(1, 1, n).deadline(0));
            for (int n : new int[] {0, 501}) Kit.argumentError(() -> madeOrder(1, 1, n));
        });
        Document.edge(50, "Returns the number of the order.", () -> {
            NoodleCanal c = Kit.canal("canal 3;barge 0 1 0 0;");
            for (int order = 0; order < 30; order++) Kit.same(c.makeOrder(2, 1, 1, 1), order);
        });
        Document.edge(50, "Throws `IndexOutOfBoundsException` if there is no such place", () -> {
            Kit.Made made = () -> Kit.busy(Kit.canal(ONE));
            Kit.same(made.get().makeOrder(0, 1, 1, 1), 1);
            Kit.same(made.get().makeOrder(2, 1, 1, 1), 1);
            Kit.indexRefused(made, c -> c.makeOrder(3, 1, 1, 1), c -> c.makeOrder(16, 1, 1, 1), c -> c.makeOrder(3, 0, 0, 0));
            for (int n : FAR) Kit.indexRefused(made, c -> c.makeOrder(n, 1, 1, 1));
            Kit.same(Kit.canal("canal 16;barge 0 1 0 0;").makeOrder(15, 1, 1, 1), 0);
            Kit.indexRefused(() -> Kit.canal("canal 16;barge 0 1 0 0;"), c -> c.makeOrder(16, 1, 1, 1));
        });
        Document.edge(50, "Throws `IllegalArgumentException` if bowls, pulls or minutes is out of range", () -> {
            Kit.Made made = () -> Kit.busy(Kit.canal(ONE));
            for (int n : FAR) Kit.argumentRefused(made, c -> c.makeOrder(0, n, 1, 1), c -> c.makeOrder(0, 1, n, 1), c -> c.makeOrder(0, 1, 1, n));
            Kit.argumentRefused(made, c -> c.makeOrder(0, 0, 1, 1), c -> c.makeOrder(0, 5, 1, 1), c -> c.makeOrder(0, 1, 0, 1));
            Kit.argumentRefused(made, c -> c.makeOrder(0, 1, 7, 1), c -> c.makeOrder(0, 1, 1, 0), c -> c.makeOrder(0, 1, 1, 501));
            Kit.argumentRefused(made, c -> c.makeOrder(0, 5, 6, 500), c -> c.makeOrder(0, 4, 7, 500), c -> c.makeOrder(0, 4, 6, 501));
        });
        Document.edge(50, "Throws `IllegalStateException` if 30 orders were made", () -> {
            Kit.Made twentyNine = () -> {
                NoodleCanal c = Kit.canal(FULL.substring(0, FULL.length() - 14));
                Kit.same(c.orderCount(), 29);
                return Kit.busy(c);
            };
            Kit.same(twentyNine.get().makeOrder(0, 1, 1, 1), 29);
            Kit.Made thirty = () -> {
                NoodleCanal c = twentyNine.get();
                c.makeOrder(0, 1, 1, 1);
                return c;
            };
            Kit.stateRefused(thirty, c -> c.makeOrder(0, 1, 1, 1), c -> c.makeOrder(2, 4, 6, 500));
            Kit.stateRefused(() -> Kit.canal(FULL), c -> c.makeOrder(0, 1, 1, 1));
            NoodleCanal expired = thirty.get();
            expired.passMinutes(60);
            Kit.same(expired.expiredOrders(), 30);
            Kit.stateError(() -> expired.makeOrder(0, 1, 1, 1));
            NoodleCanal undone = thirty.get();
            undone.undo();
            Kit.same("one undone", undone.makeOrder(0, 1, 1, 1), 29);
        });
    }

    private static NoodleCanal madeOrder(int bowls, int pulls, int minutes) {
        NoodleCanal c = Kit.canal("canal 3;barge 0 1 0 0;");
        Kit.same(c.makeOrder(0, bowls, pulls, minutes), 0);
        return c;
    }

    private static void take() {
        Document.edge(51, "A barge takes an open order, which is the last one of its queue then.", () -> {
            NoodleCanal c = Kit.canal("canal 3;barge 0 1 0 0;" + "order 1 1 1 99;".repeat(4));
            for (int i = 0; i < 4; i++) {
                c.take(0, 3 - i);
                Kit.same(c.queuedOrder(0, i), 3 - i);
                Kit.same(c.queuedOrder(0, 0), 3);
            }
        });
        Document.edge(51, "Returns the length of the queue afterwards.", () -> {
            NoodleCanal c = Kit.canal("canal 3;barge 0 1 9 0;barge 0 1 9 0;" + "order 1 1 1 99;".repeat(5));
            for (int order = 0; order < 3; order++) Kit.same(c.take(0, order), order + 1);
            c.passMinutes(2);
            Kit.same("ready ones are not in it", c.take(0, 3), 2);
            Kit.same("of another barge", c.take(1, 4), 1);
        });
        Document.edge(51, "Throws `IndexOutOfBoundsException` if there is no such barge or order", () -> {
            for (int n : FAR) Kit.indexRefused(ChangeEdgeTests::locked, c -> c.take(n, 1), c -> c.take(0, n), c -> c.take(n, n));
            Kit.same(locked().take(1, 2), 1);
            Kit.indexRefused(ChangeEdgeTests::locked, c -> c.take(2, 1), c -> c.take(0, 3), c -> c.take(2, 0), c -> c.take(5, 1), c -> c.take(0, 30));
        });
        Document.edge(51, "Throws `IllegalStateException` if the order is not open", () -> {
            Kit.Made made = () -> {
                NoodleCanal c = Kit.busy(Kit.canal("canal 3;barge 0 1 9 9;barge 0 1 9 9;order 0 1 1 9;order 1 1 1 9;order 1 1 6 9;order 1 1 1 2;order 1 1 1 9;"));
                for (int order = 0; order < 3; order++) c.take(0, order);
                c.passMinutes(3);
                return c;
            };
            Kit.same("an open one", made.get().take(1, 4), 1);
            Kit.stateRefused(made, c -> c.take(1, 0), c -> c.take(1, 1), c -> c.take(1, 2), c -> c.take(0, 2), c -> c.take(1, 3));
        });
        Document.edge(51, "or the barge has 4 orders that are taken or ready", () -> {
            for (int minutes : new int[] {1, 2, 4}) {
                Kit.Made four = () -> {
                    NoodleCanal c = Kit.busy(Kit.canal("canal 3;barge 0 1 9 0;barge 0 1 9 0;" + "order 1 1 1 99;".repeat(5)));
                    for (int order = 0; order < 3; order++) c.take(0, order);
                    Kit.same("the fourth", c.take(0, 3), 4);
                    c.passMinutes(minutes);
                    Kit.same(c.readyCount(0), minutes);
                    return c;
                };
                Kit.stateRefused(four, c -> c.take(0, 4));
                Kit.same("another barge", four.get().take(1, 4), 1);
                NoodleCanal dropped = four.get();
                dropped.drop(0);
                Kit.same("after a drop", dropped.take(0, 4), 5 - minutes);
            }
        });
    }

    private static void drop() {
        Document.edge(52, "it is open and not begun afterwards, and flour that was used up for it is lost", () -> {
            NoodleCanal c = Kit.canal("canal 3;barge 0 1 9 0;order 1 4 1 99;order 1 4 6 99;");
            c.take(0, 0);
            c.take(0, 1);
            c.passMinutes(2);
            Kit.same(c.flour(0), 1);
            c.drop(0);
            Kit.same("a ready one", c.isOpen(0), true);
            Kit.same(c.pullsLeft(0), 1);
            c.drop(1);
            Kit.same("a begun one", c.isOpen(1), true);
            Kit.same(c.pullsLeft(1), 6);
            Kit.same("lost", c.flour(0), 1);
            c.take(0, 1);
            Kit.same("not begun", c.flourNeeded(0), 4);
            c.passMinutes(1);
            Kit.same(c.pullsLeft(1), 6);
            Kit.same(c.flour(0), 1);
            c.drop(1);
            Kit.same("one not begun", c.flour(0), 1);
        });
        Document.edge(52, "Returns the barge to which it belonged.", () -> {
            NoodleCanal c = Kit.canal("canal 3;" + "barge 0 1 9 0;".repeat(5) + "order 1 1 1 9;order 1 1 1 9;");
            c.take(0, 0);
            c.take(4, 1);
            c.passMinutes(1);
            Kit.same(c.drop(1), 4);
            Kit.same(c.drop(0), 0);
        });
        Document.edge(52, "Throws `IndexOutOfBoundsException` if there is no such order", () -> {
            for (int n : FAR) Kit.indexRefused(ChangeEdgeTests::locked, c -> c.drop(n));
            Kit.indexRefused(ChangeEdgeTests::locked, c -> c.drop(3), c -> c.drop(30));
            Kit.indexRefused(() -> Kit.canal("canal 3;barge 0 1 0 0;"), c -> c.drop(0));
        });
        Document.edge(52, "Throws `IllegalStateException` if it is neither taken nor ready", () -> {
            Kit.Made made = () -> {
                NoodleCanal c = Kit.busy(Kit.canal("canal 3;barge 0 1 9 9;order 0 1 1 9;order 1 1 1 9;order 1 1 6 9;order 1 1 6 2;order 1 1 1 9;"));
                for (int order = 0; order < 4; order++) c.take(0, order);
                c.passMinutes(3);
                return c;
            };
            Kit.stateRefused(made, c -> c.drop(0), c -> c.drop(3), c -> c.drop(4));
            Kit.same("a ready one", made.get().drop(1), 0);
            Kit.same("a taken one", made.get().drop(2), 0);
            Kit.stateRefused(() -> dropped(made.get()), c -> c.drop(2));
        });
    }

    private static NoodleCanal dropped(NoodleCanal c) {
        c.drop(2);
        return c;
    }

    private static void buyFlour() {
        Document.edge(53, "Each unit costs 1 coin.", () -> {
            for (int units : new int[] {1, 2, 98, 99}) {
                NoodleCanal c = Kit.canal(ONE);
                c.buyFlour(0, units);
                Kit.same(c.coins(), -units);
            }
        });
        Document.edge(53, "`units`: 1 to 99", () -> {
            for (int units : new int[] {1, 2, 98, 99}) Kit.same(Kit.canal(ONE).buyFlour(0, units), units);
            for (int units : new int[] {0, 100}) Kit.argumentError(() -> Kit.canal(ONE).buyFlour(0, units));
        });
        Document.edge(53, "Returns the flour of the barge afterwards.", () -> {
            NoodleCanal c = Kit.canal("canal 3;barge 0 1 0 0;barge 0 1 50 0;");
            Kit.same(c.buyFlour(1, 1), 51);
            Kit.same(c.buyFlour(1, 48), 99);
            Kit.same("of its own", c.buyFlour(0, 7), 7);
        });
        Document.edge(53, "Throws `IndexOutOfBoundsException` if there is no such barge", () -> {
            for (int n : FAR) Kit.indexRefused(ChangeEdgeTests::locked, c -> c.buyFlour(n, 1), c -> c.buyFlour(n, 0));
            Kit.indexRefused(ChangeEdgeTests::locked, c -> c.buyFlour(2, 1), c -> c.buyFlour(5, 1), c -> c.buyFlour(2, 100));
        });
        Document.edge(53, "Throws `IllegalArgumentException` if units is out of range", () -> {
            Kit.Made made = () -> Kit.busy(Kit.canal(ONE));
            for (int n : FAR) Kit.argumentRefused(made, c -> c.buyFlour(0, n));
            Kit.argumentRefused(made, c -> c.buyFlour(0, 0), c -> c.buyFlour(0, 100), c -> c.buyFlour(0, 101));
            Kit.argumentRefused(ChangeEdgeTests::locked, c -> c.buyFlour(0, 0), c -> c.buyFlour(1, 100));
        });
        Document.edge(53, "Throws `IllegalStateException` if the barge is in a lock or not at place 0", () -> {
            Kit.stateRefused(ChangeEdgeTests::locked, c -> c.buyFlour(0, 1), c -> c.buyFlour(1, 1));
            NoodleCanal c = locked();
            c.passMinutes(1);
            Kit.stateError(() -> c.buyFlour(0, 1));
            c.passMinutes(1);
            Kit.same(c.placeOf(0), 1);
            Kit.stateError(() -> c.buyFlour(0, 1));
            c.sail(0, 0);
            c.passMinutes(2);
            Kit.stateError(() -> c.buyFlour(0, 1));
            c.passMinutes(1);
            Kit.same("in the harbor again", c.buyFlour(0, 1), 6);
            c.sail(0, 1);
            Kit.same("about to sail", c.buyFlour(0, 1), 7);
        });
        Document.edge(53, "or would have more than 99 units", () -> {
            for (int flour : new int[] {1, 50, 98}) {
                Kit.Made made = () -> Kit.busy(Kit.canal("canal 3;barge 0 1 " + flour + " 0;"));
                Kit.same(made.get().buyFlour(0, 99 - flour), 99);
                Kit.stateRefused(made, c -> c.buyFlour(0, 100 - flour), c -> c.buyFlour(0, 99));
            }
            Kit.stateRefused(() -> Kit.busy(Kit.canal("canal 3;barge 0 1 99 0;")), c -> c.buyFlour(0, 1), c -> c.buyFlour(0, 99));
        });
    }

    private static void collect() {
        Document.edge(54, "A barge collects all used pairs of chopsticks of its place, which are dirty pairs of the barge then.", () -> {
            NoodleCanal c = Kit.canal("canal 3;barge 0 1 9 4;barge 2 1 9 9;barge 0 1 0 0;order 0 4 1 9;order 2 3 1 9;");
            c.take(0, 0);
            c.take(1, 1);
            c.passMinutes(1);
            Kit.same("used at both ends", c.usedPairs(0) * 10 + c.usedPairs(2), 43);
            c.collect(2);
            Kit.same("another barge's pairs", c.dirtyPairs(2), 4);
            Kit.same(c.dirtyPairs(0) + c.cleanPairs(0) + c.cleanPairs(2), 0);
            Kit.same("only those of its place", c.usedPairs(0) * 10 + c.usedPairs(2), 3);
        });
        Document.edge(54, "Returns the number of collected pairs.", () -> {
            NoodleCanal c = Kit.canal("canal 3;barge 0 1 9 9;order 0 4 1 9;order 0 1 1 9;");
            Kit.same("none", c.collect(0), 0);
            c.take(0, 0);
            c.take(0, 1);
            c.passMinutes(1);
            Kit.same(c.collect(0), 4);
            Kit.same("all are collected", c.collect(0), 0);
            c.passMinutes(1);
            Kit.same("not those collected before", c.collect(0), 1);
            Kit.same(c.dirtyPairs(0), 5);
        });
        Document.edge(54, "Throws `IndexOutOfBoundsException` if there is no such barge", () -> {
            for (int n : FAR) Kit.indexRefused(ChangeEdgeTests::locked, c -> c.collect(n));
            Kit.indexRefused(ChangeEdgeTests::locked, c -> c.collect(2), c -> c.collect(5));
        });
        Document.edge(54, "Throws `IllegalStateException` if the barge is in a lock", () -> {
            Kit.stateRefused(ChangeEdgeTests::locked, c -> c.collect(0));
            NoodleCanal c = locked();
            c.passMinutes(1);
            Kit.stateError(() -> c.collect(0));
            c.passMinutes(1);
            Kit.same("behind the lock", c.collect(0), 0);
            Kit.same("a barge away from the harbor", locked().collect(1), 0);
        });
    }

    private static void wash() {
        Document.edge(55, "A barge in the harbor washes its dirty pairs of chopsticks, which are clean then.", () -> {
            NoodleCanal c = Kit.canal("canal 3;barge 0 1 9 9;barge 0 1 0 5;order 0 4 1 9;");
            c.take(0, 0);
            c.passMinutes(1);
            c.collect(0);
            Kit.same("the dirty pairs of another barge stay", c.wash(1), 5);
            Kit.same(c.dirtyPairs(0) * 10 + c.cleanPairs(0), 45);
            c.wash(0);
            Kit.same(c.dirtyPairs(0) * 10 + c.cleanPairs(0), 9);
        });
        Document.edge(55, "Returns the number of clean pairs afterwards.", () -> {
            NoodleCanal c = Kit.canal("canal 3;barge 0 1 9 99;barge 0 1 0 99;barge 0 1 0 0;order 0 4 1 9;");
            Kit.same("nothing to wash", c.wash(2), 0);
            Kit.same("nothing to wash", c.wash(1), 99);
            c.take(0, 0);
            c.passMinutes(1);
            Kit.same("used ones are not its own", c.wash(0), 95);
            c.collect(1);
            Kit.same("more than 99", c.wash(1), 103);
        });
        Document.edge(55, "Throws `IndexOutOfBoundsException` if there is no such barge", () -> {
            for (int n : FAR) Kit.indexRefused(ChangeEdgeTests::locked, c -> c.wash(n));
            Kit.indexRefused(ChangeEdgeTests::locked, c -> c.wash(2), c -> c.wash(5));
        });
        Document.edge(55, "Throws `IllegalStateException` if the barge is in a lock or not at place 0", () -> {
            Kit.stateRefused(ChangeEdgeTests::locked, c -> c.wash(0), c -> c.wash(1));
            NoodleCanal c = locked();
            c.passMinutes(2);
            Kit.same(c.placeOf(0), 1);
            Kit.stateError(() -> c.wash(0));
            c.sail(0, 0);
            c.passMinutes(2);
            Kit.stateError(() -> c.wash(0));
            c.passMinutes(1);
            Kit.same("in the harbor again", c.wash(0), 5);
        });
    }
}
