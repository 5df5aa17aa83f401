/** Promises 37 to 42, a test for each sentence with a boundary. */
final class AccountEdgeTests {
    static void run() {
        Document.edge(37, "Returns the prices of eaten orders, minus 2 for each expired order, minus what was paid for flour", () -> {
            NoodleCanal c = Kit.canal("canal 3;barge 0 1 9 9;order 0 4 6 99;order 0 1 1 99;order 1 1 1 8;order 1 1 1 8;");
            Kit.same(c.coins(), 0);
            c.take(0, 0);
            c.take(0, 1);
            c.passMinutes(6);
            Kit.same("the greatest price", c.coins(), 36);
            c.passMinutes(1);
            Kit.same("and the least one", c.coins(), 40);
            c.passMinutes(1);
            Kit.same("two expired", c.coins(), 36);
            c.buyFlour(0, 1);
            Kit.same("the least bought", c.coins(), 35);
            c.buyFlour(0, 94);
            Kit.same("the flour full", c.coins(), -59);
            Kit.same(c.flour(0), 99);
        });
        Document.edge(37, "it may be negative", () -> {
            NoodleCanal c = Kit.canal("canal 3;barge 0 1 0 0;barge 0 1 0 0;" + "order 1 1 1 1;".repeat(30));
            c.buyFlour(0, 1);
            Kit.same(c.coins(), -1);
            c.buyFlour(1, 99);
            Kit.same(c.coins(), -100);
            c.passMinutes(1);
            Kit.same(c.coins(), -160);
        });
        Document.edge(38, "Returns the bowls of all eaten orders.", () -> {
            NoodleCanal c = Kit.canal("canal 3;barge 0 1 9 9;barge 2 1 9 9;order 0 4 1 9;order 2 1 1 9;order 1 3 1 9;order 1 2 1 1;");
            Kit.same("none", c.eatenBowls(), 0);
            for (int order = 0; order < 3; order++) c.take(order % 2, order);
            c.passMinutes(1);
            Kit.same("of both barges", c.eatenBowls(), 5);
            c.passMinutes(1);
            Kit.same("not of a ready one", c.eatenBowls(), 5);
            c.collect(0);
            c.wash(0);
            Kit.same("washing leaves it", c.eatenBowls(), 5);
            c.passMinutes(60);
            Kit.same("nor of an expired one", c.eatenBowls(), 5);
        });
        Document.edge(39, "Returns the number of orders.", () -> {
            NoodleCanal c = Kit.canal("canal 3;barge 0 1 9 9;order 0 1 1 2;" + "order 1 1 1 2;".repeat(29));
            c.take(0, 0);
            Kit.same("none", c.expiredOrders(), 0);
            c.passMinutes(1);
            Kit.same("none before the deadline", c.expiredOrders(), 0);
            c.passMinutes(1);
            Kit.same("all but the eaten one", c.expiredOrders(), 29);
            c.passMinutes(60);
            Kit.same(c.expiredOrders(), 29);
            NoodleCanal all = Kit.canal("canal 3;barge 0 1 9 9;" + "order 1 1 1 1;".repeat(30));
            all.passMinutes(1);
            Kit.same("all", all.expiredOrders(), 30);
        });
        Document.edge(40, "Returns the sum of the clean pairs divided by the number of barges, both converted to double.", () -> {
            Kit.same("none", Kit.canal("canal 3;barge 0 1 0 0;").meanCleanPairs(), 0.0);
            Kit.same("one barge", Kit.canal("canal 3;barge 0 1 0 99;").meanCleanPairs(), 99.0);
            Kit.same("no whole number", Kit.canal("canal 3;barge 0 1 0 0;barge 0 1 0 1;barge 0 1 0 0;").meanCleanPairs(), 1.0 / 3.0);
            Kit.same("five barges", Kit.canal("canal 3;" + "barge 0 1 0 99;".repeat(4) + "barge 0 1 0 98;").meanCleanPairs(), 494.0 / 5.0);
            NoodleCanal c = Kit.canal("canal 3;barge 0 1 9 9;order 0 4 1 9;");
            c.take(0, 0);
            c.passMinutes(1);
            Kit.same("used pairs do not count", c.meanCleanPairs(), 5.0);
            c.collect(0);
            Kit.same("nor do dirty ones", c.meanCleanPairs(), 5.0);
            c.wash(0);
            Kit.same("washed ones do", c.meanCleanPairs(), 9.0);
        });
        Document.edge(41, "Returns the number of eaten orders divided by the number of eaten and expired orders, both converted to float", () -> {
            NoodleCanal c = Kit.canal("canal 3;barge 0 1 9 9;order 0 1 1 9;order 1 1 1 2;order 1 1 1 3;order 1 1 1 99;");
            c.take(0, 0);
            c.passMinutes(1);
            Kit.same("all eaten", c.eatenShare(), 1.0f);
            c.passMinutes(1);
            Kit.same("one of two", c.eatenShare(), 0.5f);
            c.passMinutes(1);
            Kit.same("one of three", c.eatenShare(), 1.0f / 3.0f);
            NoodleCanal none = Kit.canal("canal 3;barge 0 1 9 9;order 1 1 1 1;");
            none.passMinutes(1);
            Kit.same("none of one", none.eatenShare(), 0.0f);
        });
        Document.edge(41, "0.0 if there are none", () -> {
            Kit.same("no orders", Kit.canal("canal 3;barge 0 1 9 9;").eatenShare(), 0.0f);
            NoodleCanal c = Kit.canal("canal 3;barge 0 1 9 9;order 1 1 1 9;order 1 1 2 9;order 1 1 1 9;");
            c.take(0, 0);
            c.take(0, 1);
            c.passMinutes(2);
            Kit.same("ready, taken and open", c.eatenShare(), 0.0f);
        });
        Document.edge(42, "always 0", () -> {
            NoodleCanal c = Kit.canal("canal 3;lock 0 1;" + "barge 0 1 99 99;".repeat(4) + "barge 2 1 9 9;order 0 4 1 9;order 2 3 1 9;order 1 2 1 3;order 1 1 1 9;");
            Kit.same("at first", c.gap(), 0);
            for (int order = 0; order < 4; order++) c.take(order == 1 ? 4 : 0, order);
            c.passMinutes(1);
            Kit.same("pairs used at both ends", c.gap(), 0);
            Kit.same(c.collect(3) * 10 + c.collect(4), 43);
            Kit.same("dirty pairs", c.gap(), 0);
            c.wash(3);
            c.undo();
            c.undo();
            c.undo();
            Kit.same(c.collect(0), 4);
            Kit.same("dirty pairs of the first barge", c.gap(), 0);
            c.wash(0);
            c.sail(0, 1);
            c.passMinutes(1);
            Kit.same("washed ones, and a barge in a lock", c.gap(), 0);
            c.passMinutes(60);
            Kit.same("one eaten behind the lock", c.gap(), 0);
            c.undo();
            Kit.same("undone", c.gap(), 0);
            c.saveSnapshot();
            c.passMinutes(1);
            c.restoreSnapshot();
            Kit.same("restored", c.gap(), 0);
            Kit.load(c, "canal 3;barge 0 1 1 50;");
            Kit.same("loaded anew", c.gap(), 0);
        });
    }
}
