/** Sentences of "Terms" on scripts, and promise 57. */
final class ScriptEdgeTests {
    private static final String PLAIN = "canal 3;barge 0 1 9 9;";

    static void run() {
        grammar();
        numbers();
        limits();
        executing();
        arguments();
    }

    private static void grammar() {
        Document.edge(0, "script = { command \";\" }", () -> {
            Kit.same("no command", new NoodleCanal().runScript(0), 0);
            Kit.same("no token", Kit.script(new NoodleCanal(), " \n "), 0);
            Kit.same(Kit.script(new NoodleCanal(), "wait 1;"), 1);
            Kit.same(Kit.script(new NoodleCanal(), "wait 1;wait 1;"), 2);
            Kit.scriptFails("wait 1", 1, 6);
            Kit.scriptFails("wait 1 wait 1;", 1, 7);
            Kit.scriptFails(";", 1, 0);
            Kit.scriptFails("wait 1;;", 1, 7);
        });
        Document.edge(0, "command = \"sail\" barge place | \"order\" place bowls pulls minutes | \"take\" barge order | \"drop\" order | \"flour\" barge units | \"collect\" barge | \"wash\" barge | \"wait\" count | \"repeat\" times \"(\" { command \";\" } \")\"", () -> {
            String[] commands = {"sail 0 1", "order 0 1 1 1", "take 0 0", "drop 0", "flour 0 1", "collect 0", "wash 0", "wait 1"};
            for (String command : commands) {
                NoodleCanal c = new NoodleCanal();
                Kit.same(command, Kit.script(c, command + ";") >= 0, true);
                Kit.scriptFails(command + " 1;", 1, command.length() + 1);
                int shorter = command.lastIndexOf(' ');
                Kit.scriptFails(command.substring(0, shorter) + ";", 1, shorter);
                Kit.scriptFails(command, 1, command.length());
                Kit.scriptFails(command + ")", 1, command.length());
            }
            Kit.same("a repeat of nothing", Kit.script(new NoodleCanal(), "repeat 2 ();"), 0);
            Kit.same("a repeat of two", Kit.script(new NoodleCanal(), "repeat 2 (wait 1;wait 1;);"), 4);
            Kit.scriptFails("repeat ();", 1, 7);
            Kit.scriptFails("repeat 2;", 1, 8);
            Kit.scriptFails("repeat 2 );", 1, 9);
            Kit.scriptFails("repeat 2 (wait 1);", 1, 16);
            Kit.scriptFails("repeat 2 (wait 1;", 1, 17);
            Kit.scriptFails("repeat 2 (wait 1;)", 1, 18);
            Kit.scriptFails("repeat 2 ());", 1, 11);
            Kit.scriptFails("wait 1;)", 1, 7);
            Kit.scriptFails("lock 0 1;", 1, 0);
            Kit.scriptFails("canal 3;", 1, 0);
        });
    }

    private static void numbers() {
        Document.edge(0, "barge 0 to 4", () -> {
            Kit.scriptRange("sail ", " 1;", 0, 4);
            Kit.scriptRange("take ", " 1;", 0, 4);
            Kit.scriptRange("flour ", " 1;", 0, 4);
            Kit.scriptRange("collect ", ";", 0, 4);
            Kit.scriptRange("wash ", ";", 0, 4);
            Kit.scriptRange("repeat 2 (wash ", ";);", 0, 4);
        });
        Document.edge(0, "place 0 to 15", () -> {
            Kit.scriptRange("sail 0 ", ";", 0, 15);
            Kit.scriptRange("order ", " 1 1 1;", 0, 15);
        });
        Document.edge(0, "order 0 to 29", () -> {
            Kit.scriptRange("take 0 ", ";", 0, 29);
            Kit.scriptRange("drop ", ";", 0, 29);
        });
        Document.edge(0, "units 1 to 99", () -> Kit.scriptRange("flour 0 ", ";", 1, 99));
        Document.edge(0, "count 1 to 60", () -> Kit.scriptRange("wait ", ";", 1, 60));
        Document.edge(0, "times 2 to 5", () -> {
            Kit.scriptRange("repeat ", " ();", 2, 5);
            Kit.scriptRange("repeat 2 (repeat ", " (););", 2, 5);
            for (int times = 2; times <= 5; times++) Kit.same(Kit.script(new NoodleCanal(), "repeat " + times + " (wait 1;);"), times);
        });
    }

    private static void limits() {
        String wait = "wait 1;";
        Document.edge(0, "A script has at most 20 commands", () -> {
            Kit.same(Kit.script(new NoodleCanal(), wait.repeat(19)), 19);
            Kit.same(Kit.script(new NoodleCanal(), wait.repeat(20)), 20);
            Kit.scriptFails(wait.repeat(21), 4, 140);
            Kit.scriptFails(wait.repeat(22), 4, 140);
        });
        Document.edge(0, "a repeat and the commands inside it all count for this limit", () -> {
            Kit.same("18 and a repeat of one", Kit.script(new NoodleCanal(), wait.repeat(18) + "repeat 2(wait 1;);"), 20);
            Kit.scriptFails(wait.repeat(18) + "repeat 2(wait 1;wait 1;);", 4, 142);
            Kit.scriptFails(wait.repeat(18) + "repeat 2(wait 1;);wait 1;", 4, 144);
            Kit.same("a repeat of 19", Kit.script(new NoodleCanal(), "repeat 2(" + wait.repeat(19) + ");"), 38);
            Kit.scriptFails("repeat 2(" + wait.repeat(20) + ");", 4, 142);
            Kit.same("19 and a repeat of none", Kit.script(new NoodleCanal(), wait.repeat(19) + "repeat 2();"), 19);
            Kit.scriptFails(wait.repeat(20) + "repeat 2();", 4, 140);
            Kit.same("20 repeats", Kit.script(new NoodleCanal(), "repeat 2();".repeat(20)), 0);
            Kit.scriptFails("repeat 2();".repeat(21), 4, 220);
            Kit.same("two repeats and 18", Kit.script(new NoodleCanal(), "repeat 2(repeat 2(" + wait.repeat(18) + "););"), 72);
            Kit.scriptFails("repeat 2(repeat 2(" + wait.repeat(19) + "););", 4, 144);
        });
        Document.edge(0, "A repeat may be inside another repeat, but not inside two other repeats.", () -> {
            Kit.same(Kit.script(new NoodleCanal(), "repeat 2(repeat 2(wait 1;);repeat 3(wait 1;););"), 10);
            Kit.same("behind one another", Kit.script(new NoodleCanal(), "repeat 2();repeat 2();repeat 2();"), 0);
            Kit.scriptFails("repeat 2(repeat 2(repeat 2();););", 4, 18);
            Kit.scriptFails("repeat 2(repeat 2();repeat 2(wait 1;repeat", 4, 36);
        });
        Document.edge(0, "A script is parsed completely before its first command is executed.", () -> {
            NoodleCanal c = new NoodleCanal();
            Kit.same(Kit.script(c, "wait 1;take 0 0;sail 0 1;wait 61;"), -1);
            Kit.same(Kit.lookAtCanal(c), Kit.lookAtCanal(new NoodleCanal()));
            Kit.same(Kit.script(c, "wait 1;drop 0;x"), -1);
            Kit.same("even behind a command that would stop it", c.errorOffset(), 14);
            Kit.same(c.minute(), 0);
        });
        Document.edge(0, "the first word of the 21st command of a script", () -> {
            Kit.same(Kit.script(new NoodleCanal(), wait.repeat(20)), 20);
            for (String word : new String[] {"sail", "order", "take", "drop", "flour", "collect", "wash", "wait", "repeat"}) Kit.scriptFails(wait.repeat(20) + "\n" + word, 4, 141);
            Kit.scriptFails(wait.repeat(20) + "waits", 1, 140);
            Kit.scriptFails(wait.repeat(20) + ";", 1, 140);
            Kit.scriptFails(wait.repeat(20) + ")", 1, 140);
        });
        Document.edge(0, "or the word repeat of a repeat inside two other repeats", () -> {
            Kit.scriptFails("repeat 2(repeat 2(repeat", 4, 18);
            Kit.scriptFails("repeat 2(repeat 2(wait 1; repeat 9", 4, 26);
            Kit.scriptFails("repeat 2(repeat 2(repeats", 1, 18);
            Kit.scriptFails("repeat 2(repeat 2(repea", 1, 18);
        });
    }

    private static void executing() {
        Document.edge(57, "executes its commands in order: sail, take, drop, collect and wash do what the methods of the same names do, order, flour and wait do what makeOrder, buyFlour and passMinutes do", () -> {
            String text = "canal 3;barge 0 1 9 9;barge 0 1 0 0;order 0 4 1 9;";
            String[] commands = {"take 0 0", "drop 0", "take 0 0", "wait 60", "collect 1", "wash 1", "flour 1 99", "order 2 4 6 500", "sail 1 2", "wait 1"};
            Kit.Call[] calls = {x -> x.take(0, 0), x -> x.drop(0), x -> x.take(0, 0), x -> x.passMinutes(60), x -> x.collect(1), x -> x.wash(1),
                x -> x.buyFlour(1, 99), x -> x.makeOrder(2, 4, 6, 500), x -> x.sail(1, 2), x -> x.passMinutes(1)};
            NoodleCanal byScript = Kit.canal(text);
            NoodleCanal byCalls = Kit.canal(text);
            for (int i = 0; i < commands.length; i++) {
                Kit.same(commands[i], Kit.script(byScript, commands[i] + ";"), 1);
                calls[i].on(byCalls);
                Kit.same(commands[i], Kit.lookAtCanal(byScript), Kit.lookAtCanal(byCalls));
            }
            NoodleCanal atOnce = Kit.canal(text);
            Kit.same("all in one", Kit.script(atOnce, String.join(";", commands) + ";"), 10);
            Kit.same(Kit.lookAtCanal(atOnce), Kit.lookAtCanal(byCalls));
        });
        Document.edge(57, "A repeat executes the commands inside it in order, all of them as many times as it says.", () -> {
            for (int times = 2; times <= 5; times++) {
                NoodleCanal c = Kit.canal(PLAIN);
                Kit.same(Kit.script(c, "repeat " + times + " (order 1 1 1 500;wait 3;);wait 1;"), 2 * times + 1);
                Kit.same(c.minute(), 3 * times + 1);
                for (int order = 0; order < times; order++) Kit.same("order " + order, c.deadline(order), 499 + 3 * order);
            }
            NoodleCanal c = Kit.canal(PLAIN);
            Kit.same(Kit.script(c, "repeat 2(wait 1;repeat 3(order 0 1 1 500;wait 1;);repeat 2();wait 1;);"), 2 * (1 + 6 + 1));
            Kit.same(c.minute() * 10 + c.orderCount(), 106);
        });
        Document.edge(57, "Execution of the whole script stops at the first command whose method would throw an exception; runScript itself does not throw then.", () -> {
            // Barge 0 is in a lock, barge 1 away from the harbor; order 0 is taken, order 1 open, order 2 expired.
            String text = "canal 4;lock 0 9;bridge 1 1;barge 0 2 0 0;barge 1 2 0 0;barge 0 2 99 0;order 2 1 1 99;order 2 1 1 99;order 2 1 1 1;";
            String[] refused = {"sail 0 2", "sail 1 1", "sail 1 2", "sail 3 1", "sail 4 1", "sail 1 4", "sail 1 15", "order 4 1 1 1", "order 15 1 1 1",
                "take 0 0", "take 0 2", "take 0 3", "take 0 29", "take 3 1", "drop 1", "drop 2", "drop 3", "drop 29", "flour 0 1", "flour 1 1", "flour 2 1",
                "flour 3 1", "collect 0", "collect 3", "wash 0", "wash 1", "wash 3"};
            for (String command : refused) {
                NoodleCanal c = Kit.canal(text);
                c.sail(0, 1);
                c.take(1, 0);
                c.passMinutes(1);
                Kit.same(command, Kit.script(c, "wait 1;" + command + ";wait 1;"), 1);
                Kit.same(command, c.minute(), 2);
                Kit.same(command, c.errorCode(), 0);
            }
            NoodleCanal inside = Kit.canal(PLAIN);
            Kit.same("inside repeats", Kit.script(inside, "repeat 5(repeat 5(wait 1;drop 0;);wait 1;);wait 1;"), 1);
            Kit.same(inside.minute(), 1);
            NoodleCanal late = Kit.late(PLAIN, 59);
            Kit.same("beyond minute 9999", Kit.script(late, "wait 60;"), 0);
            Kit.same("up to minute 9999", Kit.script(late, "wait 59;wait 1;"), 1);
            Kit.same(late.minute(), 10000);
            NoodleCanal orders = Kit.canal(PLAIN);
            Kit.same("the 31st order", Kit.script(orders, "repeat 5(repeat 5(order 0 1 1 99;););repeat 5(order 0 1 1 99;);order 0 1 1 99;wait 1;"), 30);
            Kit.same("the fifth order of a barge", Kit.script(orders, "take 0 0;take 0 1;take 0 2;take 0 3;take 0 4;wait 1;"), 4);
            Kit.same("more than 99 units", Kit.script(orders, "flour 0 90;flour 0 1;"), 1);
        });
        Document.edge(57, "The buffer is emptied.", () -> {
            for (String text : new String[] {"wait 1;", "drop 0;", "wait 61;", "x", ""}) {
                NoodleCanal c = new NoodleCanal();
                c.runScript(Kit.append(c, text));
                Kit.argumentError(() -> c.runScript(1));
                Kit.argumentError(() -> c.loadCanal(1));
                Kit.same(c.appendText(0, 0, 0, 0, 0), 20);
            }
            NoodleCanal c = new NoodleCanal();
            Kit.append(c, "wait 1;");
            Kit.same(c.runScript(0), 0);
            Kit.argumentError(() -> c.runScript(1));
        });
        Document.edge(57, "Returns the number of commands that were executed, where a command inside a repeat counts each time, and a repeat itself does not count; -1 if there is a parse error.", () -> {
            Kit.same("none", Kit.script(Kit.canal(PLAIN), "drop 0;wait 1;"), 0);
            Kit.same("one", Kit.script(Kit.canal(PLAIN), "wait 1;drop 0;"), 1);
            Kit.same("repeats of nothing", Kit.script(Kit.canal(PLAIN), "repeat 5(repeat 5(););"), 0);
            Kit.same("one inside a repeat", Kit.script(Kit.canal(PLAIN), "repeat 5(wait 1;);"), 5);
            Kit.same("the most", Kit.script(Kit.canal(PLAIN), "repeat5(repeat5(" + "wait1;".repeat(18) + "););"), 450);
            Kit.same("stopped in the second round", Kit.script(Kit.canal(PLAIN + "order 1 1 1 9;"), "repeat 5(wait 1;take 0 0;);"), 3);
            Kit.same("a parse error", Kit.script(Kit.canal(PLAIN), "wait 1;wait 0;"), -1);
        });
    }

    private static void arguments() {
        Document.edge(57, "Parses the first bytes of the input buffer as a script", () -> {
            for (int length : new int[] {0, 1, 6, 7, 8, 13, 14, 15, 20}) {
                NoodleCanal c = new NoodleCanal();
                Kit.append(c, "wait 1;wait 2;");
                int due = length == 0 ? 0 : length < 7 ? -1 : length == 7 ? 1 : length < 14 ? -1 : 2;
                Kit.same("length " + length, c.runScript(length), due);
            }
        });
        Document.edge(57, "Throws `IllegalArgumentException` if length is negative or greater than the number of bytes in the buffer; the buffer is not emptied then", () -> {
            Kit.Made made = () -> Kit.busy(new NoodleCanal());
            for (int n : new int[] {-1, -2, 41, 42, 500, 501, Integer.MIN_VALUE, Integer.MAX_VALUE}) Kit.argumentRefused(made, c -> c.runScript(n));
            Kit.same("as long as the buffer", made.get().runScript(40), 2);
            Kit.same("no byte of it", made.get().runScript(0), 0);
            NoodleCanal full = new NoodleCanal();
            Kit.same(Kit.append(full, " ".repeat(493) + "wait 1;"), 500);
            Kit.argumentError(() -> full.runScript(501));
            Kit.same("the buffer is not emptied", full.runScript(500), 1);
        });
    }
}
