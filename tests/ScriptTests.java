/** Promise 57 (with 4 and 5 for its errors): scripts. */
final class ScriptTests {
    static void run() {
        executing();
        stopping();
        repeating();
        buffer();
        ranges();
        grammar();
        limits();
    }

    private static void executing() {
        Kit.test(57, "each command does what its method does", () -> {
            String start = "canal 4;lock 1 2;barge 0 3 20 9;barge 0 6 5 1;order 0 2 2 30;order 3 1 1 10;";
            NoodleCanal c = Kit.canal(start);
            Kit.same(Kit.script(c, "take 0 0;take 1 1;drop 1;take 0 1;wait 3;collect 1;wash 1;flour 1 7;order 2 4 6 50;sail 0 3;wait 5;"), 11);
            NoodleCanal d = Kit.canal(start);
            d.take(0, 0);
            d.take(1, 1);
            d.drop(1);
            d.take(0, 1);
            d.passMinutes(3);
            Kit.same(d.collect(1), 2);
            d.wash(1);
            d.buyFlour(1, 7);
            d.makeOrder(2, 4, 6, 50);
            d.sail(0, 3);
            d.passMinutes(5);
            Kit.same(Kit.lookAtCanal(c), Kit.lookAtCanal(d));
            Kit.same(c.eatenBowls(), 3);
        });
        Kit.test(57, "a script is one change", () -> {
            NoodleCanal c = new NoodleCanal();
            String before = Kit.lookAtCanal(c);
            Kit.same(Kit.script(c, "wait 1;wait 2;take 0 0;"), 3);
            Kit.same(c.undoableCount(), 1);
            Kit.same(c.undo(), 0);
            Kit.same(Kit.lookAtCanal(c), before);
        });
        Kit.test(57, "a script without commands is a change too", () -> {
            NoodleCanal c = new NoodleCanal();
            Kit.same(c.runScript(0), 0);
            Kit.same(c.undoableCount(), 1);
            Kit.same(Kit.script(c, " \n "), 0);
            Kit.same(Kit.script(c, "drop 0;"), 0);
            Kit.same(c.undoableCount(), 3);
            Kit.same(c.errorCode(), 0);
            Kit.same(c.errorOffset(), -1);
        });
        Kit.test(57, "a parse error is no change and executes nothing", () -> {
            NoodleCanal c = new NoodleCanal();
            c.passMinutes(1);
            String before = Kit.lookAtCanal(c);
            Kit.same(Kit.script(c, "wait 1;take 0 0;wait 61;"), -1);
            Kit.same(Kit.lookAtCanal(c), before);
            Kit.same(c.undoableCount(), 1);
            Kit.same(c.errorCode(), 2);
            Kit.same(c.errorOffset(), 21);
        });
        Kit.test(57, "nothing of an earlier script is left", () -> {
            NoodleCanal c = new NoodleCanal();
            Kit.same(Kit.script(c, "wait 1;repeat 2 (wait 2;wait 3;);wait 4;"), 6);
            Kit.same(c.minute(), 15);
            Kit.same(Kit.script(c, "wait 1;"), 1);
            Kit.same(c.minute(), 16);
            Kit.same(Kit.script(c, "repeat 2 ();wait 9;"), 1);
            Kit.same(c.minute(), 25);
        });
    }

    private static void stopping() {
        Kit.test(57, "the first command that would throw stops the script", () -> {
            for (String wrong : new String[] {
                "sail 0 0", "sail 2 1", "sail 4 1", "sail 0 6", "sail 0 15", "sail 1 5", "order 6 1 1 1", "order 15 1 1 1", "take 2 0", "take 0 3", "take 0 29",
                "take 0 1", "drop 0", "drop 3", "drop 29", "flour 2 1", "flour 1 1", "flour 0 90", "collect 2", "wash 2", "wash 1", "collect 4", "wash 4"}) {
                NoodleCanal c = new NoodleCanal();
                Kit.same(wrong, Kit.script(c, "take 1 1;wait 1;" + wrong + ";wait 5;"), 2);
                Kit.same(wrong, c.minute(), 1);
                Kit.same(wrong, c.undoableCount(), 1);
                Kit.same(wrong, c.errorCode(), 0);
                c.undo();
                Kit.same(wrong, c.minute(), 0);
            }
        });
        Kit.test(57, "in a lock nothing can be sailed, bought, collected or washed", () -> {
            for (String wrong : new String[] {"sail 0 0", "flour 0 1", "collect 0", "wash 0"}) {
                NoodleCanal c = Kit.canal("canal 3;lock 0 9;barge 0 1 0 0;");
                Kit.same(wrong, Kit.script(c, "sail 0 1;wait 1;" + wrong + ";wait 1;"), 2);
            }
        });
        Kit.test(57, "a fifth order and a 31st order", () -> {
            NoodleCanal c = Kit.canal("canal 3;barge 0 1 0 0;");
            Kit.same(Kit.script(c, "repeat 5(repeat 5(order 0 1 1 500;););repeat 3(repeat 2(order 0 1 1 500;););"), 30);
            Kit.same(c.orderCount(), 30);
            Kit.same(Kit.script(c, "take 0 0;take 0 1;take 0 2;take 0 3;take 0 4;"), 4);
        });
        Kit.test(57, "a wait beyond minute 9999 does not begin", () -> {
            NoodleCanal c = Kit.late("canal 3;barge 0 1 0 0;", 5);
            Kit.same(Kit.script(c, "wait 2;wait 4;wait 1;"), 1);
            Kit.same(c.minute(), 9997);
            Kit.same(Kit.script(c, "repeat 5(wait 1;);"), 3);
            Kit.same(c.minute(), 10000);
        });
        Kit.test(57, "a stop inside a repeat ends the whole script", () -> {
            NoodleCanal c = new NoodleCanal();
            Kit.same(Kit.script(c, "repeat 3(wait 1;repeat 2(wait 1;take 0 0;););wait 50;"), 4);
            Kit.same(c.minute(), 3);
            Kit.same(c.bargeOf(0), 0);
        });
    }

    private static void repeating() {
        Kit.test(57, "a repeat executes all its commands as many times", () -> {
            NoodleCanal c = new NoodleCanal();
            Kit.same(Kit.script(c, "repeat 2 (wait 1;);"), 2);
            Kit.same(c.minute(), 2);
            Kit.same(Kit.script(c, "repeat 5 (wait 1;wait 10;);"), 10);
            Kit.same(c.minute(), 57);
            Kit.same(Kit.script(c, "repeat 3 (order 0 1 1 1; wait 1; repeat 4 (wait 2;); order 0 1 1 1;);"), 21);
            Kit.same(c.minute(), 57 + 27);
            Kit.same(c.orderCount(), 9);
        });
        Kit.test(57, "the commands of a repeat come in turn", () -> {
            NoodleCanal c = Kit.canal("canal 3;barge 0 1 9 9;");
            Kit.same(Kit.script(c, "repeat 2(order 1 1 1 1;wait 1;);"), 4);
            Kit.same(c.deadline(0), 0);
            Kit.same(c.deadline(1), 1);
        });
        Kit.test(57, "repeats behind one another and inside one another", () -> {
            NoodleCanal c = Kit.canal("canal 3;barge 0 1 9 9;");
            Kit.same(Kit.script(c, "repeat 2(repeat 2();repeat 3(wait 1;);wait 2;repeat 2(wait 3;););repeat 4(wait 4;);wait 5;"), 2 * 6 + 4 + 1);
            Kit.same(c.minute(), 2 * (3 + 2 + 6) + 16 + 5);
        });
        Kit.test(57, "an empty repeat", () -> {
            NoodleCanal c = new NoodleCanal();
            Kit.same(Kit.script(c, "repeat 5 ();repeat 2(repeat 2(););"), 0);
            Kit.same(c.errorCode(), 0);
            Kit.same(c.undoableCount(), 1);
        });
        Kit.test(57, "the most commands and repeats", () -> {
            NoodleCanal c = Kit.canal("canal 3;barge 0 1 9 9;");
            Kit.same(Kit.script(c, "repeat5(repeat5(" + "wait20;".repeat(18) + "););"), 450);
            Kit.same(c.minute(), 9000);
        });
    }

    private static void buffer() {
        Kit.test(57, "the buffer is emptied", () -> {
            NoodleCanal c = new NoodleCanal();
            Kit.script(c, "wait 1;");
            Kit.argumentError(() -> c.runScript(1));
            Kit.script(c, "x");
            Kit.argumentError(() -> c.runScript(1));
            Kit.same(c.appendText(0, 0, 0, 0, 0), 20);
        });
        Kit.test(57, "a wrong length throws and keeps the buffer", () -> {
            NoodleCanal c = new NoodleCanal();
            Kit.append(c, "wait 1;");
            for (int n : new int[] {-1, 21, 500, Integer.MIN_VALUE, Integer.MAX_VALUE}) Kit.refused(c, "IllegalArgumentException", () -> c.runScript(n));
            Kit.same(c.runScript(20), 1);
        });
        Kit.test(57, "only the first bytes are parsed", () -> {
            NoodleCanal c = new NoodleCanal();
            Kit.append(c, "wait 1;wait 20;");
            Kit.same(c.runScript(7), 1);
            Kit.append(c, "wait 1;wait 20;");
            Kit.same(c.runScript(13), -1);
            Kit.same(c.errorCode(), 1);
            Kit.same(c.errorOffset(), 13);
        });
    }

    private static void ranges() {
        Kit.test(57, "ranges of the numbers of a script", () -> {
            Kit.scriptRange("sail ", " 1;", 0, 4);
            Kit.scriptRange("sail 0 ", ";", 0, 15);
            Kit.scriptRange("order ", " 1 1 1;", 0, 15);
            Kit.scriptRange("order 0 ", " 1 1;", 1, 4);
            Kit.scriptRange("order 0 1 ", " 1;", 1, 6);
            Kit.scriptRange("order 0 1 1 ", ";", 1, 500);
            Kit.scriptRange("take ", " 1;", 0, 4);
            Kit.scriptRange("take 0 ", ";", 0, 29);
            Kit.scriptRange("drop ", ";", 0, 29);
            Kit.scriptRange("flour ", " 1;", 0, 4);
            Kit.scriptRange("flour 0 ", ";", 1, 99);
            Kit.scriptRange("collect ", ";", 0, 4);
            Kit.scriptRange("wash ", ";", 0, 4);
            Kit.scriptRange("wait ", ";", 1, 60);
            Kit.scriptRange("repeat ", "();", 2, 5);
        });
    }

    private static void grammar() {
        Kit.test(4, "what is not allowed in a script", () -> {
            Kit.scriptFails(";", 1, 0);
            Kit.scriptFails("wait 1", 1, 6);
            Kit.scriptFails("wait 1 ", 1, 7);
            Kit.scriptFails("wait 1;;", 1, 7);
            Kit.scriptFails("wait 1 1;", 1, 7);
            Kit.scriptFails("wait;", 1, 4);
            Kit.scriptFails("waits 1;", 1, 0);
            Kit.scriptFails("wai", 1, 0);
            Kit.scriptFails("Wait 1;", 1, 0);
            Kit.scriptFails("1 wait;", 1, 0);
            Kit.scriptFails("wait -1;", 1, 5);
            Kit.scriptFails("wait 1)", 1, 6);
            Kit.scriptFails("wait 1;)", 1, 7);
            Kit.scriptFails("(wait 1;);", 1, 0);
            Kit.scriptFails("canal 3;", 1, 0);
            Kit.scriptFails("lock 0 1;", 1, 0);
            Kit.scriptFails("sail 0;", 1, 6);
            Kit.scriptFails("order 0 1 1;", 1, 11);
            Kit.scriptFails("flour 0 1 2;", 1, 10);
            Kit.scriptFails("wait 1,", 1, 6);
        });
        Kit.test(4, "a number that is wanting", () -> {
            Kit.scriptFails("sail 1;", 1, 6);
            Kit.scriptFails("order 1 1 1;", 1, 11);
            Kit.scriptFails("take 1;", 1, 6);
            Kit.scriptFails("drop;", 1, 4);
            Kit.scriptFails("flour 1;", 1, 7);
            Kit.scriptFails("collect;", 1, 7);
            Kit.scriptFails("wash;", 1, 4);
            Kit.scriptFails("wait;", 1, 4);
            Kit.scriptFails("repeat ();", 1, 7);
        });
        Kit.test(4, "every letter of a word counts", () -> {
            for (String word : new String[] {"sail", "order", "take", "drop", "flour", "collect", "wash", "wait", "repeat"}) {
                for (int at = 0; at < word.length(); at++) {
                    Kit.scriptFails("wait 1;" + word.substring(0, at) + "x" + word.substring(at + 1) + " 2 2 2 2;", 1, 7);
                    Kit.scriptFails("wait 1;" + word.substring(0, at) + word.substring(at + 1) + " 2 2 2 2;", 1, 7);
                    Kit.scriptFails("wait 1;" + word.substring(0, at) + "z" + word.substring(at) + " 2 2 2 2;", 1, 7);
                }
                Kit.scriptFails("wait 1;" + word + "z 2 2 2 2;", 1, 7);
            }
        });
        Kit.test(4, "what is not allowed in a repeat", () -> {
            Kit.scriptFails("repeat", 1, 6);
            Kit.scriptFails("repeat (wait 1;);", 1, 7);
            Kit.scriptFails("repeat 2;", 1, 8);
            Kit.scriptFails("repeat 2 wait 1;", 1, 9);
            Kit.scriptFails("repeat 2 (", 1, 10);
            Kit.scriptFails("repeat 2 (wait 1);", 1, 16);
            Kit.scriptFails("repeat 2 (wait 1;", 1, 17);
            Kit.scriptFails("repeat 2 (wait 1;;", 1, 17);
            Kit.scriptFails("repeat 2 (wait 1;)", 1, 18);
            Kit.scriptFails("repeat 2 (wait 1;) wait 1;", 1, 19);
            Kit.scriptFails("repeat 2 (wait 1;));", 1, 18);
            Kit.scriptFails("repeat 2 ((wait 1;););", 1, 10);
            Kit.scriptFails("repeat 2 (repeat 2 ());", 1, 21);
            Kit.scriptFails("repeat 6 (wait 61;);", 2, 7);
            Kit.scriptFails("repeat 2 (wait 61;);", 2, 15);
        });
        Kit.test(57, "spaces and line feeds only separate", () -> {
            NoodleCanal c = new NoodleCanal();
            Kit.same(Kit.script(c, "\nrepeat\n2\n(\nwait\n1\n;\n)\n;\n"), 2);
            Kit.same(Kit.script(c, "repeat2(wait1;);order0 1 1 1;"), 3);
            Kit.same(Kit.script(c, "  wait   0000000000000000000000000000001  ;  "), 1);
            Kit.same(c.minute(), 5);
        });
    }

    private static void limits() {
        Kit.test(4, "the 21st command", () -> {
            String twenty = "wait 1;".repeat(20);
            NoodleCanal c = new NoodleCanal();
            Kit.same(Kit.script(c, twenty), 20);
            Kit.scriptFails(twenty + "wait 1;", 4, 140);
            Kit.scriptFails(twenty + "\nrepeat", 4, 141);
            Kit.scriptFails(twenty + "wat 1;", 1, 140);
            Kit.scriptFails(twenty + "61;", 1, 140);
            Kit.scriptFails(twenty + ")", 1, 140);
        });
        Kit.test(4, "a repeat and the commands inside it count", () -> {
            String eighteen = "wait 1;".repeat(18);
            NoodleCanal c = new NoodleCanal();
            Kit.same(Kit.script(c, eighteen + "repeat 2(wait 1;);"), 20);
            Kit.scriptFails(eighteen + "repeat 2(wait 1;wait 1;);", 4, 142);
            Kit.scriptFails(eighteen + "repeat 2(wait 1;);wait 1;", 4, 144);
            Kit.scriptFails(eighteen + "repeat 2(repeat 2(repeat", 4, 144);
            Kit.same(Kit.script(c, "wait 1;" + eighteen + "repeat 2();"), 19);
        });
        Kit.test(4, "a repeat inside two other repeats", () -> {
            NoodleCanal c = new NoodleCanal();
            Kit.same(Kit.script(c, "repeat 2(repeat 2(wait 1;);repeat 2(wait 1;););"), 8);
            Kit.scriptFails("repeat 2(repeat 2(repeat 2(wait 1;);););", 4, 18);
            Kit.scriptFails("repeat 2(repeat 2(wait 1; repeat 9", 4, 26);
            Kit.scriptFails("repeat 2(repeat 2(repeats", 1, 18);
            Kit.scriptFails("repeat 2(repeat 2(wait 1;);repeat 2(repeat", 4, 36);
        });
    }
}
