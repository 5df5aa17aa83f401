/** Promises 37 to 42: the accounts. */
final class AccountTests {
    private static final String SHOP = "canal 3;barge 0 1 9 9;barge 0 1 9 2;order 0 2 1 9;order 0 3 1 9;order 1 1 1 2;order 1 1 1 2;order 0 1 4 9;";

    static void run() {
        Kit.test(37, "coins", () -> {
            NoodleCanal c = Kit.canal(SHOP);
            Kit.same(c.coins(), 0);
            c.take(0, 0);
            c.take(0, 1);
            c.passMinutes(1);
            Kit.same(c.coins(), 8);
            c.passMinutes(1);
            Kit.same(c.coins(), 8 + 12 - 4);
            c.buyFlour(0, 20);
            Kit.same(c.coins(), -4);
            c.undo();
            Kit.same(c.coins(), 16);
        });
        Kit.test(38, "eatenBowls", () -> {
            NoodleCanal c = Kit.canal(SHOP);
            Kit.same(c.eatenBowls(), 0);
            c.take(0, 0);
            c.take(0, 1);
            c.passMinutes(1);
            Kit.same(c.eatenBowls(), 2);
            c.passMinutes(1);
            Kit.same(c.eatenBowls(), 5);
            c.passMinutes(9);
            Kit.same(c.eatenBowls(), 5);
        });
        Kit.test(39, "expiredOrders", () -> {
            NoodleCanal c = Kit.canal(SHOP);
            c.passMinutes(1);
            Kit.same(c.expiredOrders(), 0);
            c.passMinutes(1);
            Kit.same(c.expiredOrders(), 2);
            c.passMinutes(7);
            Kit.same(c.expiredOrders(), 5);
            c.passMinutes(60);
            Kit.same(c.expiredOrders(), 5);
            Kit.same(c.coins(), -10);
        });
        Kit.test(40, "meanCleanPairs", () -> {
            NoodleCanal c = Kit.canal(SHOP);
            Kit.same(c.meanCleanPairs(), 5.5);
            c.take(0, 0);
            c.passMinutes(1);
            Kit.same(c.meanCleanPairs(), 4.5);
            c.collect(1);
            Kit.same(c.meanCleanPairs(), 4.5);
            c.wash(1);
            Kit.same(c.meanCleanPairs(), 5.5);
            Kit.same(Kit.canal("canal 3;barge 0 1 9 1;barge 0 1 9 0;barge 1 2 3 0;").meanCleanPairs(), 1.0 / 3.0);
        });
        Kit.test(41, "eatenShare", () -> {
            NoodleCanal c = Kit.canal(SHOP);
            Kit.same(c.eatenShare(), 0.0f);
            c.take(0, 0);
            c.passMinutes(1);
            Kit.same(c.eatenShare(), 1.0f);
            c.passMinutes(1);
            Kit.same(c.eatenShare(), 1.0f / 3.0f);
            c.passMinutes(7);
            Kit.same(c.eatenShare(), 0.2f);
            NoodleCanal none = Kit.canal(SHOP);
            none.passMinutes(2);
            Kit.same(none.eatenShare(), 0.0f);
        });
        Kit.test(42, "gap", () -> {
            NoodleCanal c = Kit.canal(SHOP);
            Kit.same(c.gap(), 0);
            c.take(0, 0);
            c.passMinutes(1);
            Kit.same(c.gap(), 0);
            c.collect(1);
            Kit.same(c.gap(), 0);
            c.wash(1);
            Kit.same(c.gap(), 0);
            c.undo();
            c.undo();
            Kit.same(c.gap(), 0);
            c.collect(0);
            Kit.same(c.dirtyPairs(0), 2);
            Kit.same(c.gap(), 0);
            NoodleCanal five = Kit.canal("canal 3;barge 0 1 9 9;barge 0 1 9 9;barge 0 1 9 9;barge 0 1 9 9;barge 2 1 9 9;order 2 3 1 9;");
            five.take(4, 0);
            five.passMinutes(1);
            five.collect(4);
            Kit.same(five.dirtyPairs(4), 3);
            Kit.same(five.gap(), 0);
            Kit.load(c, "canal 4;barge 0 1 1 77;");
            Kit.same(c.gap(), 0);
        });
    }
}
