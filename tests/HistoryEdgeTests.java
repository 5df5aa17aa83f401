/** Promises 58 to 63, a test for each sentence with a boundary. */
final class HistoryEdgeTests {
    private static final String ONE = "canal 3;barge 0 1 0 0;order 0 1 1 9;";

    static void run() {
        output();
        undoing();
        snapshots();
    }

    private static void output() {
        Document.edge(58, "Writes the canal to the output, which is replaced.", () -> {
            NoodleCanal c = Kit.canal("canal 16;barge 15 1 0 0;");
            Kit.same(c.writeCanal(), 31);
            Kit.load(c, "canal 3;barge 0 1 0 0;");
            Kit.same("the old one is there", c.outputByte(30), 49);
            Kit.same(Kit.output(c), "1-.-.");
            Kit.indexError(() -> c.outputByte(5));
        });
        Document.edge(58, "For each place, in ascending order", () -> {
            Kit.same(Kit.output(Kit.canal("canal 3;barge 0 1 0 0;")), "1-.-.");
            Kit.same(Kit.output(Kit.canal("canal 3;barge 2 1 0 0;barge 1 1 0 0;barge 2 1 0 0;")), ".-1-2");
            Kit.same(Kit.output(Kit.canal("canal 16;barge 15 1 0 0;barge 0 1 0 0;barge 7 1 0 0;")), "1-.-.-.-.-.-.-1-.-.-.-.-.-.-.-1");
        });
        Document.edge(58, "(46) if no barge is there, otherwise the digit of the number of barges that bargesAt counts", () -> {
            for (int barges = 1; barges <= 5; barges++) {
                NoodleCanal c = Kit.canal("canal 3;" + "barge 1 1 0 0;".repeat(barges));
                c.writeCanal();
                Kit.same("none", c.outputByte(0), 46);
                Kit.same(barges + " barges", c.outputByte(2), 48 + barges);
            }
            NoodleCanal c = Kit.canal("canal 3;lock 0 1;barge 0 1 0 0;barge 0 1 0 0;");
            c.sail(0, 1);
            Kit.same(Kit.output(c), "2|.-.");
            c.passMinutes(1);
            Kit.same("the one in the lock is not counted", Kit.output(c), "1=.-.");
            c.passMinutes(1);
            Kit.same(Kit.output(c), "1|1-.");
        });
        Document.edge(58, "behind each place but the last one, for the section behind it: = (61) if a barge is in its lock, | (124) if it has a lock, - (45) if it has none", () -> {
            NoodleCanal c = Kit.canal("canal 4;lock 0 1;bridge 1 1;lock 2 2;barge 1 1 0 0;barge 3 1 0 0;");
            Kit.same(Kit.output(c), ".|1-.|1");
            c.sail(0, 0);
            c.sail(1, 2);
            c.passMinutes(1);
            Kit.same(Kit.output(c), ".=.-.=.");
            Kit.same(c.outputByte(1) + " " + c.outputByte(3) + " " + c.outputByte(5), "61 45 61");
            c.passMinutes(1);
            Kit.same(Kit.output(c), "1|.-.=.");
            Kit.same(c.outputByte(1), 124);
            c.passMinutes(1);
            Kit.same(Kit.output(c), "1|.-1|.");
        });
        Document.edge(58, "Returns the number of bytes of the output.", () -> {
            for (int places = 3; places <= 16; places++) Kit.same(Kit.canal("canal " + places + ";barge 0 1 0 0;").writeCanal(), 2 * places - 1);
        });
        Document.edge(59, "The output changes in writeCanal only.", () -> {
            Kit.Call[] calls = {c -> c.sail(0, 1), c -> c.makeOrder(0, 1, 1, 1), c -> c.take(0, 0), c -> c.drop(0), c -> c.buyFlour(0, 1), c -> c.collect(0),
                c -> c.wash(0), c -> c.passMinutes(1), c -> Kit.script(c, "wait 2;"), NoodleCanal::saveSnapshot, NoodleCanal::undo, NoodleCanal::restoreSnapshot,
                c -> c.coinsAfter(9), c -> Kit.load(c, "x"), c -> Kit.script(c, "x"), c -> Kit.load(c, "canal 16;barge 1 1 0 0;")};
            NoodleCanal c = Kit.canal(ONE);
            c.writeCanal();
            for (int i = 0; i < calls.length; i++) {
                calls[i].on(c);
                Kit.same("byte 0 behind call " + i, c.outputByte(0), 49);
                Kit.same("byte 4 behind call " + i, c.outputByte(4), 46);
                Kit.indexError(() -> c.outputByte(5));
            }
            c.writeCanal();
            Kit.same(c.outputByte(0), 46);
        });
        Document.edge(59, "Returns the byte.", () -> {
            NoodleCanal c = Kit.canal("canal 3;lock 0 1;barge 0 1 0 0;barge 0 1 0 0;barge 2 1 0 0;");
            c.sail(0, 1);
            c.passMinutes(1);
            Kit.same(c.writeCanal(), 5);
            int[] due = {49, 61, 46, 45, 49};
            for (int i = 0; i < 5; i++) Kit.same("byte " + i, c.outputByte(i), due[i]);
        });
        Document.edge(59, "Throws `IndexOutOfBoundsException` if there is no such byte", () -> {
            Kit.Made none = () -> Kit.canal(ONE);
            Kit.indexRefused(none, c -> c.outputByte(0), c -> c.outputByte(-1), c -> c.outputByte(1));
            Kit.Made five = () -> Kit.busy(Kit.canal(ONE));
            Kit.same(five.get().outputByte(0), 49);
            Kit.same(five.get().outputByte(4), 46);
            for (int n : new int[] {-1, 5, 6, 31, Integer.MIN_VALUE, Integer.MAX_VALUE}) Kit.indexRefused(five, c -> c.outputByte(n));
            Kit.Made most = () -> Kit.busy(Kit.canal("canal 16;barge 0 1 0 0;"));
            Kit.same(most.get().outputByte(30), 46);
            Kit.indexRefused(most, c -> c.outputByte(31), c -> c.outputByte(32), c -> c.outputByte(-1));
        });
    }

    private static void undoing() {
        Document.edge(60, "Returns 0 to 8.", () -> {
            NoodleCanal c = Kit.canal(ONE);
            for (int changes = 0; changes < 20; changes++) {
                Kit.same(c.undoableCount(), Math.min(changes, 8));
                c.collect(0);
            }
            for (int left = 8; left > 0; left--) {
                Kit.same(c.undoableCount(), left);
                c.undo();
            }
            Kit.same(c.undoableCount(), 0);
        });
        Document.edge(61, "Undoes the latest change: the canal becomes as it was before it, including all counts.", () -> {
            String text = "canal 3;lock 0 2;barge 0 1 9 9;order 0 1 1 9;order 0 2 1 9;order 1 1 1 4;";
            Kit.Call[] calls = {c -> c.take(0, 0), c -> c.passMinutes(1), c -> c.collect(0), c -> c.wash(0), c -> c.buyFlour(0, 90), c -> c.makeOrder(2, 1, 1, 9),
                c -> c.take(0, 1), c -> c.drop(1), c -> c.sail(0, 1), c -> c.passMinutes(2), c -> Kit.script(c, "take 0 3;wait 9;")};
            for (int last = 0; last < calls.length; last++) {
                NoodleCanal c = Kit.canal(text);
                for (int i = 0; i < last; i++) calls[i].on(c);
                String before = Kit.lookAtCanal(c);
                calls[last].on(c);
                Kit.same(c.undo(), Math.min(last, 7));
                Kit.same("change " + last + " undone", Kit.lookAtCanal(c), before);
            }
        });
        Document.edge(61, "The input buffer, the parse error, the output and the snapshot are not affected.", () -> {
            NoodleCanal c = Kit.canal(ONE);
            c.passMinutes(3);
            c.saveSnapshot();
            c.writeCanal();
            c.sail(0, 2);
            c.passMinutes(2);
            Kit.same(Kit.script(c, "repeat 9"), -1);
            Kit.append(c, "wait 7;");
            for (int left = 2; left >= 0; left--) Kit.same(c.undo(), left);
            Kit.same(c.minute(), 0);
            Kit.same("the error's code", c.errorCode(), 2);
            Kit.same("the error's offset", c.errorOffset(), 7);
            Kit.same("the output", c.outputByte(0), 49);
            Kit.same("the input", c.runScript(20), 1);
            Kit.same(c.minute(), 7);
            Kit.same("the snapshot", c.restoreSnapshot(), 3);
        });
        Document.edge(61, "Returns the number of changes that can still be undone.", () -> {
            NoodleCanal c = Kit.canal(ONE);
            c.collect(0);
            Kit.same("none left", c.undo(), 0);
            for (int i = 0; i < 9; i++) c.collect(0);
            for (int left = 7; left >= 0; left--) Kit.same(c.undo(), left);
        });
        Document.edge(61, "Throws `IllegalStateException` if there is nothing to undo", () -> {
            Kit.stateRefused(NoodleCanal::new, NoodleCanal::undo);
            Kit.Made loaded = () -> {
                NoodleCanal c = new NoodleCanal();
                c.passMinutes(1);
                Kit.same(Kit.load(c, ONE), 1);
                c.writeCanal();
                Kit.append(c, "wait 2;");
                return c;
            };
            Kit.stateRefused(loaded, NoodleCanal::undo);
            Kit.Made allUndone = () -> {
                NoodleCanal c = Kit.canal(ONE);
                for (int i = 0; i < 9; i++) c.passMinutes(1);
                for (int i = 0; i < 8; i++) c.undo();
                c.saveSnapshot();
                return c;
            };
            Kit.stateRefused(allUndone, NoodleCanal::undo);
            Kit.Made restored = () -> {
                NoodleCanal c = Kit.busy(Kit.canal(ONE));
                c.restoreSnapshot();
                return c;
            };
            Kit.stateRefused(restored, NoodleCanal::undo);
        });
    }

    private static void snapshots() {
        Document.edge(62, "Saves a snapshot of the canal, including all counts.", () -> {
            NoodleCanal c = Kit.canal("canal 3;lock 0 2;barge 0 1 9 9;order 0 1 1 9;order 0 2 1 9;order 1 1 1 4;order 1 1 1 9;");
            Kit.script(c, "take 0 0;wait 1;collect 0;take 0 1;sail 0 1;wait 4;take 0 3;");
            String before = Kit.lookAtCanal(c);
            c.saveSnapshot();
            Kit.same("saving is no change", c.undoableCount(), 1);
            Kit.script(c, "drop 1;drop 3;sail 0 0;order 2 1 1 1;wait 9;collect 0;wash 0;flour 0 9;");
            Kit.same(c.restoreSnapshot(), 5);
            Kit.same(Kit.lookAtCanal(c), before);
        });
        Document.edge(62, "An earlier snapshot is replaced.", () -> {
            NoodleCanal c = Kit.canal(ONE);
            c.saveSnapshot();
            c.passMinutes(1);
            c.saveSnapshot();
            c.passMinutes(1);
            Kit.same(c.restoreSnapshot(), 1);
            c.passMinutes(3);
            c.saveSnapshot();
            c.passMinutes(1);
            Kit.same(c.restoreSnapshot(), 4);
        });
        Document.edge(63, "Restores the snapshot, which is kept.", () -> {
            NoodleCanal c = Kit.canal(ONE);
            c.passMinutes(2);
            c.saveSnapshot();
            String before = Kit.lookAtCanal(c);
            for (int times = 0; times < 3; times++) {
                c.take(0, 0);
                c.passMinutes(9);
                Kit.same(c.restoreSnapshot(), 2);
                Kit.same(Kit.lookAtCanal(c), before);
            }
            Kit.same("twice in a row", c.restoreSnapshot(), 2);
        });
        Document.edge(63, "The undo history is cleared.", () -> {
            for (int changes : new int[] {0, 1, 8, 9}) {
                NoodleCanal c = Kit.canal(ONE);
                c.saveSnapshot();
                for (int i = 0; i < changes; i++) c.passMinutes(1);
                c.restoreSnapshot();
                Kit.same(c.undoableCount(), 0);
                Kit.stateError(c::undo);
                for (int i = 0; i < 9; i++) c.passMinutes(1);
                for (int left = 7; left >= 0; left--) Kit.same(c.undo(), left);
                Kit.same(c.minute(), 1);
            }
        });
        Document.edge(63, "Returns the value of minute() afterwards.", () -> {
            NoodleCanal c = Kit.late(ONE, 0);
            c.saveSnapshot();
            Kit.same("the last one", c.restoreSnapshot(), 10000);
            Kit.same(c.minute(), 10000);
            NoodleCanal first = Kit.canal(ONE);
            first.saveSnapshot();
            first.passMinutes(60);
            Kit.same("the first one", first.restoreSnapshot(), 0);
            Kit.same(first.minute(), 0);
        });
        Document.edge(63, "Throws `IllegalStateException` if there is no snapshot", () -> {
            Kit.stateRefused(NoodleCanal::new, NoodleCanal::restoreSnapshot);
            Kit.Made discarded = () -> {
                NoodleCanal c = Kit.busy(Kit.canal(ONE));
                c.runScript(0);
                Kit.same(Kit.load(c, ONE), 1);
                c.passMinutes(1);
                return c;
            };
            Kit.stateRefused(discarded, NoodleCanal::restoreSnapshot);
            NoodleCanal kept = Kit.busy(Kit.canal(ONE));
            kept.runScript(0);
            Kit.same(Kit.load(kept, "x"), -1);
            Kit.same("kept by a load that fails", kept.restoreSnapshot(), 0);
        });
    }
}
