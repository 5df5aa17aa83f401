/** Promises 58 to 63: the output, undo and the snapshot. */
final class HistoryTests {
    static void run() {
        output();
        undoing();
        snapshots();
    }

    private static void output() {
        Kit.test(58, "writeCanal", () -> {
            NoodleCanal c = new NoodleCanal();
            Kit.same(c.writeCanal(), 11);
            Kit.same(Kit.output(c), "1-.|1-.-.|.");
            c.sail(0, 2);
            c.passMinutes(1);
            Kit.same(Kit.output(c), ".-1|1-.-.|.");
            c.passMinutes(1);
            Kit.same(Kit.output(c), ".-.=1-.-.|.");
            c.passMinutes(3);
            Kit.same(Kit.output(c), ".-.|2-.-.|.");
        });
        Kit.test(58, "writeCanal of the shortest and the longest canal", () -> {
            NoodleCanal c = Kit.canal("canal 3;bridge 0 1;lock 1 1;" + "barge 2 1 0 0;".repeat(5));
            Kit.same(c.writeCanal(), 5);
            Kit.same(Kit.output(c), ".-.|5");
            Kit.load(c, "canal 16;lock 14 2;barge 15 1 0 0;");
            Kit.same(c.writeCanal(), 31);
            Kit.same(Kit.output(c), ".-.-.-.-.-.-.-.-.-.-.-.-.-.-.|1");
            c.sail(0, 0);
            c.passMinutes(1);
            Kit.same(Kit.output(c), ".-.-.-.-.-.-.-.-.-.-.-.-.-.-.=.");
        });
        Kit.test(59, "outputByte", () -> {
            NoodleCanal c = new NoodleCanal();
            Kit.indexError(() -> c.outputByte(0));
            c.writeCanal();
            Kit.same(c.outputByte(0), 49);
            Kit.same(c.outputByte(1), 45);
            Kit.same(c.outputByte(2), 46);
            Kit.same(c.outputByte(3), 124);
            Kit.same(c.outputByte(10), 46);
            for (int n : new int[] {-1, 11, 12, 31, Integer.MIN_VALUE, Integer.MAX_VALUE}) Kit.indexError(() -> c.outputByte(n));
        });
        Kit.test(59, "the output changes in writeCanal only", () -> {
            NoodleCanal c = new NoodleCanal();
            c.writeCanal();
            c.sail(0, 1);
            c.passMinutes(1);
            Kit.same(c.outputByte(0), 49);
            c.undo();
            c.saveSnapshot();
            c.restoreSnapshot();
            Kit.script(c, "sail 0 1;wait 1;");
            Kit.load(c, "canal 3;barge 1 1 0 0;");
            Kit.same(c.outputByte(0), 49);
            Kit.same(c.outputByte(10), 46);
            c.writeCanal();
            Kit.same(c.outputByte(0), 46);
            Kit.indexError(() -> c.outputByte(5));
        });
    }

    private static void undoing() {
        Kit.test(60, "undoableCount", () -> {
            NoodleCanal c = new NoodleCanal();
            Kit.same(c.undoableCount(), 0);
            c.sail(0, 1);
            c.makeOrder(0, 1, 1, 9);
            c.take(0, 3);
            c.drop(3);
            c.buyFlour(0, 1);
            c.collect(0);
            c.wash(0);
            Kit.same(c.undoableCount(), 7);
            c.passMinutes(1);
            Kit.same(c.undoableCount(), 8);
            Kit.script(c, "wait 1;");
            Kit.same(c.undoableCount(), 8);
            c.undo();
            Kit.same(c.undoableCount(), 7);
            c.passMinutes(1);
            c.passMinutes(1);
            Kit.same(c.undoableCount(), 8);
        });
        Kit.test(60, "what is no change", () -> {
            NoodleCanal c = new NoodleCanal();
            c.passMinutes(1);
            Kit.append(c, "x");
            c.runScript(1);
            Kit.load(c, "x");
            c.writeCanal();
            c.saveSnapshot();
            c.coinsAfter(9);
            Kit.stateError(() -> c.sail(0, 0));
            Kit.same(c.undoableCount(), 1);
        });
        Kit.test(61, "each change is undone", () -> {
            for (int last = 0; last < 9; last++) {
                NoodleCanal c = new NoodleCanal();
                for (int i = 0; i < last; i++) oneChange(c, i);
                String before = Kit.lookAtCanal(c);
                oneChange(c, last);
                Kit.same(c.undo(), Math.min(last, 7));
                Kit.same("undo of change " + last, Kit.lookAtCanal(c), before);
            }
        });
        Kit.test(61, "the latest change first", () -> {
            NoodleCanal c = new NoodleCanal();
            oneChange(c, 0);
            String before = Kit.lookAtCanal(c);
            for (int i = 1; i < 9; i++) oneChange(c, i);
            for (int left = 7; left >= 0; left--) Kit.same(c.undo(), left);
            Kit.same(Kit.lookAtCanal(c), before);
            Kit.refused(c, "IllegalStateException", c::undo);
        });
        Kit.test(61, "only the latest 8 changes", () -> {
            NoodleCanal c = new NoodleCanal();
            for (int i = 0; i < 20; i++) c.passMinutes(1);
            for (int i = 7; i >= 0; i--) {
                Kit.same(c.undo(), i);
                Kit.same(c.minute(), 12 + i);
            }
            Kit.stateError(c::undo);
            c.passMinutes(5);
            Kit.same(c.undo(), 0);
            Kit.same(c.minute(), 12);
        });
        Kit.test(61, "input, error, output and snapshot stay", () -> {
            NoodleCanal c = new NoodleCanal();
            c.sail(0, 1);
            c.passMinutes(1);
            c.saveSnapshot();
            c.writeCanal();
            Kit.script(c, "repeat 9");
            Kit.append(c, "wait 7;");
            c.undo();
            c.undo();
            Kit.same(c.errorCode(), 2);
            Kit.same(c.errorOffset(), 7);
            Kit.same(c.outputByte(2), 49);
            Kit.same(c.runScript(20), 1);
            Kit.same(c.restoreSnapshot(), 1);
            Kit.same(c.placeOf(0), 1);
        });
    }

    private static void oneChange(NoodleCanal c, int i) {
        switch (i) {
            case 0 -> c.sail(0, 5);
            case 1 -> c.makeOrder(2, 1, 1, 2);
            case 2 -> c.take(1, 3);
            case 3 -> c.passMinutes(2);
            case 4 -> c.collect(1);
            case 5 -> c.take(0, 2);
            case 6 -> Kit.script(c, "wait 12;order 0 1 1 1;");
            case 7 -> c.drop(2);
            default -> c.passMinutes(60);
        }
    }

    private static void snapshots() {
        Kit.test(62, "a snapshot keeps the whole canal", () -> {
            NoodleCanal c = new NoodleCanal();
            Kit.script(c, "take 1 0;sail 0 5;take 0 1;wait 3;");
            String before = Kit.lookAtCanal(c);
            c.saveSnapshot();
            Kit.same(c.undoableCount(), 1);
            Kit.script(c, "drop 1;sail 1 0;order 0 1 1 1;wait 60;collect 1;wash 1;flour 1 9;");
            Kit.same(c.restoreSnapshot(), 3);
            Kit.same(Kit.lookAtCanal(c), before);
        });
        Kit.test(62, "a later snapshot replaces the earlier one", () -> {
            NoodleCanal c = new NoodleCanal();
            c.saveSnapshot();
            c.passMinutes(5);
            c.saveSnapshot();
            c.passMinutes(5);
            Kit.same(c.restoreSnapshot(), 5);
        });
        Kit.test(62, "changes and undo leave the snapshot", () -> {
            NoodleCanal c = new NoodleCanal();
            c.passMinutes(1);
            c.saveSnapshot();
            c.undo();
            c.passMinutes(7);
            Kit.same(c.restoreSnapshot(), 1);
            Kit.load(c, "x");
            Kit.same(c.restoreSnapshot(), 1);
        });
        Kit.test(63, "a snapshot is kept when it is restored", () -> {
            NoodleCanal c = new NoodleCanal();
            c.passMinutes(4);
            c.saveSnapshot();
            for (int i = 0; i < 3; i++) {
                c.passMinutes(9);
                c.take(0, 1);
                Kit.same(c.restoreSnapshot(), 4);
                Kit.same(c.isOpen(1), true);
            }
        });
        Kit.test(63, "restoring clears the history", () -> {
            NoodleCanal c = new NoodleCanal();
            c.passMinutes(4);
            c.saveSnapshot();
            c.passMinutes(4);
            Kit.same(c.restoreSnapshot(), 4);
            Kit.same(c.undoableCount(), 0);
            Kit.stateError(c::undo);
            c.passMinutes(1);
            Kit.same(c.undo(), 0);
            Kit.same(c.minute(), 4);
        });
        Kit.test(63, "without a snapshot", () -> {
            NoodleCanal c = new NoodleCanal();
            c.passMinutes(1);
            Kit.refused(c, "IllegalStateException", c::restoreSnapshot);
            c.saveSnapshot();
            Kit.load(c, "canal 3;barge 0 1 0 0;");
            Kit.refused(c, "IllegalStateException", c::restoreSnapshot);
            c.saveSnapshot();
            Kit.same(c.restoreSnapshot(), 0);
            Kit.same(c.placeCount(), 3);
        });
    }
}
