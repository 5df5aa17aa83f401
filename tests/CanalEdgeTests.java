/** Sentences of "Terms" on the canal, and promises 1 and 6 to 13. */
final class CanalEdgeTests {
    private static final String LEAST = "canal 3;barge 0 1 0 0;";
    private static final String MOST = "canal 16;barge 0 1 0 0;";
    private static final int[] FAR = {-2, Integer.MIN_VALUE, Integer.MAX_VALUE};

    private interface NumberCall {
        void on(NoodleCanal c, int number);
    }

    static void run() {
        places();
        sections();
        locks();
        newObject();
        minutesAndPlaces();
        sectionQuestions();
        placeQuestions();
    }

    private static void places() {
        Document.edge(0, "An object is used for at most 512 calls after it has been made", () -> {
            NoodleCanal c = new NoodleCanal();
            for (int call = 1; call <= 511; call++) c.passMinutes(1);
            Kit.same("the 512th call", c.minute(), 511);
            NoodleCanal d = new NoodleCanal();
            for (int call = 1; call <= 511; call++) d.saveSnapshot();
            Kit.same("the 512th call", d.restoreSnapshot(), 0);
        });
        Document.edge(0, "The canal has 3 to 16 places in a row, numbered from 0.", () -> {
            Kit.loadFails("canal 2;barge 0 1 0 0;", 2, 6);
            Kit.same(Kit.canal(LEAST).placeCount(), 3);
            Kit.same(Kit.canal(LEAST).bargesAt(0), 1);
            Kit.same(Kit.canal(LEAST).bargesAt(2), 0);
            Kit.same(Kit.canal(MOST).placeCount(), 16);
            Kit.same(Kit.canal(MOST).bargesAt(15), 0);
            Kit.loadFails("canal 17;barge 0 1 0 0;", 2, 6);
        });
        Document.edge(0, "At each place there are used pairs of chopsticks, 0 at first.", () -> {
            NoodleCanal c = Kit.canal("canal 16;barge 0 1 99 99;barge 15 1 99 99;");
            for (int place = 0; place < 16; place++) Kit.same("place " + place, c.usedPairs(place), 0);
        });
        Document.edge(0, "Place 0 is the harbor.", () -> {
            String three = "canal 3;barge 0 1 0 0;barge 1 1 0 0;barge 2 1 0 0;";
            Kit.same(Kit.canal(three).buyFlour(0, 1), 1);
            Kit.same(Kit.canal(three).wash(0), 0);
            for (int barge = 1; barge < 3; barge++) {
                int away = barge;
                Kit.stateRefused(() -> Kit.busy(Kit.canal(three)), c -> c.buyFlour(away, 1), c -> c.wash(away));
            }
        });
    }

    private static void sections() {
        Document.edge(0, "Section s lies between the places s and s + 1.", () -> {
            NoodleCanal c = Kit.canal("canal 4;lock 0 2;lock 2 3;barge 1 1 0 0;barge 2 1 0 0;");
            int[] due = {3, 1, 4};
            for (int s = 0; s < 3; s++) {
                Kit.same("section " + s + " upward", c.journeyTime(s, s + 1), due[s]);
                Kit.same("section " + s + " downward", c.journeyTime(s + 1, s), due[s]);
            }
            c.sail(0, 0);
            c.sail(1, 3);
            c.passMinutes(1);
            Kit.same(c.bargeInLock(0), 0);
            Kit.same(c.bargeInLock(1), -1);
            Kit.same(c.bargeInLock(2), 1);
        });
        Document.edge(0, "A section may have a lock", () -> {
            NoodleCanal c = Kit.canal("canal 5;lock 1 9;bridge 2 9;lock 3 1;bridge 3 1;barge 0 1 0 0;");
            int[] waits = {0, 9, 0, 1};
            int[] clearances = {0, 0, 9, 1};
            for (int s = 0; s < 4; s++) {
                Kit.same("lock of section " + s, c.lockWait(s), waits[s]);
                Kit.same("bridge of section " + s, c.clearance(s), clearances[s]);
            }
        });
        Document.edge(0, "with a waiting time from 1 to 9 minutes", () -> {
            Kit.loadFails("canal 3;lock 0 0;barge 0 1 0 0;", 2, 15);
            for (int wait : new int[] {1, 2, 8, 9}) {
                NoodleCanal c = Kit.canal("canal 3;lock 0 " + wait + ";barge 0 1 0 0;");
                c.sail(0, 1);
                c.passMinutes(wait);
                Kit.same("waiting " + wait + ", place before its end", c.placeOf(0), 0);
                c.passMinutes(1);
                Kit.same("waiting " + wait + ", place at its end", c.placeOf(0), 1);
            }
            Kit.loadFails("canal 3;lock 0 10;barge 0 1 0 0;", 2, 15);
        });
        Document.edge(0, "and a bridge, with a clearance from 1 to 9", () -> {
            Kit.loadFails("canal 3;bridge 0 0;barge 0 1 0 0;", 2, 17);
            Kit.same(Kit.canal("canal 3;bridge 0 1;barge 0 1 0 0;").clearance(0), 1);
            Kit.same(Kit.canal("canal 3;bridge 0 9;barge 0 1 0 0;").clearance(0), 9);
            Kit.loadFails("canal 3;bridge 0 10;barge 0 1 0 0;", 2, 17);
        });
    }

    private static void locks() {
        Document.edge(0, "At most one barge is in a lock.", () -> {
            NoodleCanal c = Kit.canal("canal 3;lock 0 2;barge 0 1 0 0;barge 0 1 0 0;barge 0 1 0 0;barge 1 1 0 0;barge 1 1 0 0;");
            for (int barge = 0; barge < 5; barge++) c.sail(barge, barge < 3 ? 1 : 0);
            int[] due = {0, 0, 1, 1, 2, 2, 3, 3, 4, 4, -1};
            for (int minute = 0; minute < due.length; minute++) {
                c.passMinutes(1);
                int inside = 0;
                for (int barge = 0; barge < 5; barge++) if (c.timeInLock(barge) > 0) inside++;
                Kit.same("barge in the lock behind minute " + minute, c.bargeInLock(0), due[minute]);
                Kit.same("barges in the lock behind minute " + minute, inside, due[minute] < 0 ? 0 : 1);
            }
            Kit.same(c.bargesAt(1) * 10 + c.bargesAt(0), 32);
        });
    }

    private static void newObject() {
        Document.edge(1, "Creates the canal \"canal 6;lock 1 3;bridge 3 4;lock 4 2;barge 0 3 10 6;barge 2 5 4 2;order 2 2 3 20;order 5 1 1 30;order 1 3 2 15;\"", () -> {
            NoodleCanal c = Kit.canal("canal 6;lock 1 3;bridge 3 4;lock 4 2;barge 0 3 10 6;barge 2 5 4 2;order 2 2 3 20;order 5 1 1 30;order 1 3 2 15;");
            Kit.same(Kit.look(new NoodleCanal()), Kit.look(c));
        });
        Document.edge(1, "with an empty input buffer and an empty output", () -> {
            Kit.argumentRefused(NoodleCanal::new, c -> c.loadCanal(1), c -> c.runScript(1), c -> c.loadCanal(-1), c -> c.runScript(-1));
            Kit.indexRefused(NoodleCanal::new, c -> c.outputByte(0), c -> c.outputByte(-1));
            Kit.same(new NoodleCanal().loadCanal(0), -1);
            Kit.same(new NoodleCanal().runScript(0), 0);
            Kit.same(new NoodleCanal().appendText(0, 0, 0, 0, 0), 20);
        });
        Document.edge(1, "It is minute 0, there are 0 coins, and nothing can be undone.", () -> {
            Kit.same(new NoodleCanal().minute(), 0);
            Kit.same(new NoodleCanal().coins(), 0);
            Kit.same(new NoodleCanal().undoableCount(), 0);
            Kit.stateRefused(NoodleCanal::new, NoodleCanal::undo);
        });
    }

    private static void minutesAndPlaces() {
        Document.edge(6, "Returns 0 to 10000 (10000 if all minutes have passed).", () -> {
            NoodleCanal c = Kit.late(LEAST, 2);
            Kit.same(new NoodleCanal().minute(), 0);
            Kit.same(c.minute(), 9998);
            c.passMinutes(1);
            Kit.same(c.minute(), 9999);
            c.passMinutes(1);
            Kit.same(c.minute(), 10000);
            Kit.stateError(() -> c.passMinutes(1));
            Kit.same(Kit.script(c, "wait 1;"), 0);
            Kit.same(c.minute(), 10000);
        });
        Document.edge(7, "Returns 3 to 16.", () -> {
            for (int places = 3; places <= 16; places++) Kit.same(Kit.canal("canal " + places + ";barge 0 1 0 0;").placeCount(), places);
        });
    }

    private static void noSection(int promise, NumberCall call) {
        Document.edge(promise, "Throws `IndexOutOfBoundsException` if there is no such section", () -> {
            Kit.Made least = () -> Kit.busy(Kit.canal(LEAST));
            call.on(least.get(), 0);
            call.on(least.get(), 1);
            Kit.indexRefused(least, c -> call.on(c, -1), c -> call.on(c, 2), c -> call.on(c, 3));
            for (int far : FAR) Kit.indexRefused(least, c -> call.on(c, far));
            call.on(Kit.canal(MOST), 14);
            Kit.indexRefused(() -> Kit.canal(MOST), c -> call.on(c, -1), c -> call.on(c, 15), c -> call.on(c, 16));
            Kit.indexRefused(() -> afterALargerCanal(), c -> call.on(c, 2));
        });
    }

    private static NoodleCanal afterALargerCanal() {
        NoodleCanal c = Kit.canal(MOST);
        Kit.same(Kit.load(c, LEAST), 1);
        return c;
    }

    private static void sectionQuestions() {
        Document.edge(8, "Returns 1 to 9; 0 if the section has no lock.", () -> {
            NoodleCanal c = Kit.canal("canal 4;lock 0 1;bridge 1 5;lock 2 9;barge 0 1 0 0;");
            Kit.same(c.lockWait(0), 1);
            Kit.same(c.lockWait(1), 0);
            Kit.same(c.lockWait(2), 9);
            Kit.same(Kit.canal("canal 16;lock 14 9;barge 0 1 0 0;").lockWait(14), 9);
        });
        Document.edge(9, "Returns 1 to 9; 0 if the section has no bridge.", () -> {
            NoodleCanal c = Kit.canal("canal 4;bridge 0 1;lock 1 5;bridge 2 9;barge 0 1 0 0;");
            Kit.same(c.clearance(0), 1);
            Kit.same(c.clearance(1), 0);
            Kit.same(c.clearance(2), 9);
            Kit.same(Kit.canal("canal 16;bridge 14 9;barge 0 1 0 0;").clearance(14), 9);
        });
        Document.edge(10, "Returns the number of the barge; -1 if there is none.", () -> {
            NoodleCanal c = Kit.canal("canal 4;lock 0 1;lock 2 2;barge 1 1 0 0;barge 1 1 0 0;barge 1 1 0 0;barge 1 1 0 0;barge 3 1 0 0;");
            c.sail(0, 0);
            c.sail(4, 1);
            int[][] due = {{-1, -1, -1}, {0, -1, 4}, {-1, -1, 4}, {-1, -1, -1}, {-1, -1, -1}};
            for (int minute = 0; minute < due.length; minute++) {
                for (int s = 0; s < 3; s++) Kit.same("section " + s + " at minute " + minute, c.bargeInLock(s), due[minute][s]);
                c.passMinutes(1);
            }
            Kit.same(c.placeOf(4), 1);
        });
        noSection(8, (c, s) -> c.lockWait(s));
        noSection(9, (c, s) -> c.clearance(s));
        noSection(10, (c, s) -> c.bargeInLock(s));
    }

    private static void noPlace(int promise, NumberCall call) {
        Document.edge(promise, "Throws `IndexOutOfBoundsException` if there is no such place", () -> {
            Kit.Made least = () -> Kit.busy(Kit.canal(LEAST));
            call.on(least.get(), 0);
            call.on(least.get(), 2);
            Kit.indexRefused(least, c -> call.on(c, -1), c -> call.on(c, 3), c -> call.on(c, 4));
            for (int far : FAR) Kit.indexRefused(least, c -> call.on(c, far));
            call.on(Kit.canal(MOST), 15);
            Kit.indexRefused(() -> Kit.canal(MOST), c -> call.on(c, -1), c -> call.on(c, 16), c -> call.on(c, 17));
            Kit.indexRefused(() -> afterALargerCanal(), c -> call.on(c, 3));
        });
    }

    private static void placeQuestions() {
        Document.edge(11, "Returns the number of pairs.", () -> {
            NoodleCanal c = Kit.canal("canal 3;barge 0 1 9 9;barge 2 1 9 9;order 0 1 1 9;order 2 4 1 9;order 2 1 1 9;");
            c.take(0, 0);
            c.take(1, 1);
            c.take(1, 2);
            int[][] due = {{0, 0, 0}, {1, 0, 4}, {1, 0, 5}};
            for (int minute = 0; minute < 3; minute++) {
                for (int place = 0; place < 3; place++) Kit.same("place " + place + " at minute " + minute, c.usedPairs(place), due[minute][place]);
                c.passMinutes(1);
            }
            c.collect(1);
            Kit.same(c.usedPairs(2), 0);
            Kit.same(c.usedPairs(0), 1);
        });
        Document.edge(12, "Returns the number of barges whose place it is and that are not in a lock.", () -> {
            NoodleCanal c = Kit.canal("canal 3;lock 0 2;" + "barge 0 1 0 0;".repeat(5));
            Kit.same("all", c.bargesAt(0), 5);
            Kit.same("none", c.bargesAt(1), 0);
            c.sail(0, 1);
            c.sail(1, 1);
            Kit.same("two sail", c.bargesAt(0), 5);
            int[][] due = {{4, 0}, {4, 0}, {3, 1}, {3, 1}, {3, 2}};
            for (int minute = 0; minute < due.length; minute++) {
                c.passMinutes(1);
                for (int place = 0; place < 2; place++) Kit.same("place " + place + " behind minute " + minute, c.bargesAt(place), due[minute][place]);
            }
        });
        Document.edge(13, "Returns the number of orders for this place that are open, taken or ready.", () -> {
            NoodleCanal c = Kit.canal("canal 3;barge 0 1 9 9;order 1 1 1 9;order 1 1 1 2;order 1 1 1 9;");
            Kit.same("open", c.ordersAt(1), 3);
            Kit.same("of other places", c.ordersAt(0) + c.ordersAt(2), 0);
            c.take(0, 0);
            Kit.same("with one taken", c.ordersAt(1), 3);
            c.passMinutes(1);
            Kit.same(c.isReady(0), true);
            Kit.same("with one ready", c.ordersAt(1), 3);
            c.passMinutes(1);
            Kit.same("with one expired", c.ordersAt(1), 2);
            c.sail(0, 1);
            c.passMinutes(1);
            Kit.same(c.isEaten(0), true);
            Kit.same("with one eaten", c.ordersAt(1), 1);
            Kit.same("30 orders", Kit.canal(LEAST + "order 2 1 1 9;".repeat(30)).ordersAt(2), 30);
        });
        noPlace(11, (c, p) -> c.usedPairs(p));
        noPlace(12, (c, p) -> c.bargesAt(p));
        noPlace(13, (c, p) -> c.ordersAt(p));
    }
}
