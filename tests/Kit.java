import java.nio.ByteBuffer;
import java.nio.charset.StandardCharsets;
import java.util.TreeSet;

/** What the tests share: counting, comparing, and putting texts into a canal. */
final class Kit {
    interface Body {
        void run();
    }

    static final TreeSet<Integer> PROMISES = new TreeSet<>();
    private static int passed = 0;
    private static int failed = 0;

    private Kit() {
    }

    /** Runs one test of a promise; promise 0 stands for rules that no single promise holds. */
    static void test(int promise, String name, Body body) {
        PROMISES.add(promise);
        try {
            body.run();
            passed++;
        } catch (RuntimeException | AssertionError | StackOverflowError e) {
            failed++;
            System.out.println("FAILED: promise " + promise + ", " + name + ": " + e);
            for (StackTraceElement line : e.getStackTrace()) {
                if (line.getClassName().endsWith("Tests")) System.out.println("    at " + line);
            }
        }
    }

    static int finish() {
        System.out.println(passed + " passed, " + failed + " failed");
        return failed;
    }

    static void same(Object got, Object want) {
        if (!want.equals(got)) throw new AssertionError("answered " + got + ", due is " + want);
    }

    static void same(String what, Object got, Object want) {
        if (!want.equals(got)) throw new AssertionError(what + " answered " + got + ", due is " + want);
    }

    static void indexError(Body call) {
        same("the call", thrown(call), "IndexOutOfBoundsException");
    }

    static void argumentError(Body call) {
        same("the call", thrown(call), "IllegalArgumentException");
    }

    static void stateError(Body call) {
        same("the call", thrown(call), "IllegalStateException");
    }

    private static String thrown(Body call) {
        try {
            call.run();
            return "nothing thrown";
        } catch (RuntimeException e) {
            return e.getClass().getSimpleName();
        }
    }

    /** A call that must throw E (its simple name) and leave what look shows as it was. */
    static void refused(NoodleCanal c, String exception, Body call) {
        String before = look(c);
        same("the call", thrown(call), exception);
        same("the canal after a refused call", look(c), before);
    }

    /** Makes an object that stands where a call is to be refused; each time alike. */
    interface Made {
        NoodleCanal get();
    }

    interface Call {
        void on(NoodleCanal c);
    }

    static void indexRefused(Made made, Call... calls) {
        for (Call call : calls) refused(made, "IndexOutOfBoundsException", call);
    }

    static void argumentRefused(Made made, Call... calls) {
        for (Call call : calls) refused(made, "IllegalArgumentException", call);
    }

    static void stateRefused(Made made, Call... calls) {
        for (Call call : calls) refused(made, "IllegalStateException", call);
    }

    /** A call that must throw E (its simple name), behind which all goes on as if it had not been made. */
    private static void refused(Made made, String exception, Call call) {
        NoodleCanal c = made.get();
        same("the call", thrown(() -> call.on(c)), exception);
        same("what comes behind a refused call", story(c), story(made.get()));
    }

    /** Calls that answer, but behind which all goes on as if they had not been made. */
    static void changesNothing(Made made, Call... calls) {
        for (Call call : calls) {
            NoodleCanal c = made.get();
            call.on(c);
            same("what comes behind the call", story(c), story(made.get()));
        }
    }

    /** Gives an object all that a refused call could spoil: a parse error, a snapshot, an output, a change and a text. */
    static NoodleCanal busy(NoodleCanal c) {
        same(script(c, "repeat 9"), -1);
        c.saveSnapshot();
        c.writeCanal();
        c.collect(0);
        append(c, "wait 2;order 0 1 1 9;");
        return c;
    }

    /** What an object answers from here on: its canal, output, input, history and snapshot. */
    private static String story(NoodleCanal c) {
        StringBuilder s = new StringBuilder(look(c)).append("\noutput ").append(lastOutput(c));
        int filled = c.appendText(0x20202020, 0x20202020, 0x20202020, 0x20202020, 0x20202020);
        s.append("\nfilled ").append(filled).append(" script ").append(filled < 0 ? 0 : c.runScript(filled));
        s.append(" error ").append(c.errorCode()).append('@').append(c.errorOffset());
        s.append(" minute ").append(c.minute()).append(" orders ").append(c.orderCount()).append("\nundone ");
        while (c.undoableCount() > 0) s.append(c.undo()).append(" at ").append(c.minute()).append(", coins ").append(c.coins()).append(", ");
        s.append(lookAtCanal(c));
        s.append("\nrestored ").append(thrown(c::restoreSnapshot)).append(lookAtCanal(c));
        return s.toString();
    }

    private static String lastOutput(NoodleCanal c) {
        StringBuilder s = new StringBuilder();
        for (int i = 0; i < 31; i++) {
            int at = i;
            if (!thrown(() -> c.outputByte(at)).equals("nothing thrown")) break;
            s.append((char) c.outputByte(i));
        }
        return s.toString();
    }

    /** Appends a text, filled up with spaces to whole twenties, and answers the text's own length. */
    static int append(NoodleCanal c, String text) {
        byte[] bytes = text.getBytes(StandardCharsets.ISO_8859_1);
        byte[] padded = new byte[(bytes.length + 19) / 20 * 20];
        java.util.Arrays.fill(padded, (byte) 32);
        System.arraycopy(bytes, 0, padded, 0, bytes.length);
        ByteBuffer in = ByteBuffer.wrap(padded);
        while (in.hasRemaining()) {
            same("appendText", c.appendText(in.getInt(), in.getInt(), in.getInt(), in.getInt(), in.getInt()), in.position());
        }
        return bytes.length;
    }

    static int load(NoodleCanal c, String text) {
        return c.loadCanal(append(c, text));
    }

    static int script(NoodleCanal c, String text) {
        return c.runScript(append(c, text));
    }

    static NoodleCanal canal(String text) {
        NoodleCanal c = new NoodleCanal();
        if (load(c, text) < 1) throw new AssertionError("code " + c.errorCode() + " at " + c.errorOffset() + " in " + text);
        return c;
    }

    static void loadFails(String text, int code, int offset) {
        NoodleCanal c = new NoodleCanal();
        same("loadCanal of " + text, load(c, text), -1);
        same("errorCode of " + text, c.errorCode(), code);
        same("errorOffset of " + text, c.errorOffset(), offset);
    }

    static void scriptFails(String text, int code, int offset) {
        NoodleCanal c = new NoodleCanal();
        same("runScript of " + text, script(c, text), -1);
        same("errorCode of " + text, c.errorCode(), code);
        same("errorOffset of " + text, c.errorOffset(), offset);
        same("undoableCount after " + text, c.undoableCount(), 0);
    }

    /** A number of a canal at its place in a text: the ends of its range are read, the numbers beside them are not. */
    static void canalRange(String before, String behind, int least, int most) {
        for (int n : new int[] {least, most}) same(before + n + behind, load(new NoodleCanal(), before + n + behind), 1);
        if (least > 0) loadFails(before + (least - 1) + behind, 2, before.length());
        loadFails(before + (most + 1) + behind, 2, before.length());
        loadFails(before + "4294967296" + behind, 2, before.length());
        loadFails(before + "x" + behind, 1, before.length());
        loadFails(before + "-1" + behind, 1, before.length());
        loadFails(before, 1, before.length());
    }

    /** The same for a number of a script. */
    static void scriptRange(String before, String behind, int least, int most) {
        for (int n : new int[] {least, most}) {
            NoodleCanal c = new NoodleCanal();
            same(before + n + behind, script(c, before + n + behind) >= 0, true);
            same(before + n + behind, c.errorCode(), 0);
        }
        if (least > 0) scriptFails(before + (least - 1) + behind, 2, before.length());
        scriptFails(before + (most + 1) + behind, 2, before.length());
        scriptFails(before + "4294967296" + behind, 2, before.length());
        scriptFails(before + "x" + behind, 1, before.length());
        scriptFails(before + "-1" + behind, 1, before.length());
        scriptFails(before, 1, before.length());
    }

    /** Passes more minutes than one call allows. */
    static void pass(NoodleCanal c, int minutes) {
        for (int left = minutes; left > 0; left -= 60) c.passMinutes(Math.min(left, 60));
    }

    /** A canal of three places at minute 10000 minus some, within few calls. */
    static NoodleCanal late(String text, int minutesLeft) {
        NoodleCanal c = canal(text);
        int todo = 10000 - minutesLeft;
        for (; todo >= 1500; todo -= 1500) {
            same("a script of 1500 minutes", script(c, "repeat 5 (repeat 5 (wait 60;););"), 25);
        }
        pass(c, todo);
        same("minute", c.minute(), 10000 - minutesLeft);
        return c;
    }

    static String output(NoodleCanal c) {
        StringBuilder s = new StringBuilder();
        int n = c.writeCanal();
        for (int i = 0; i < n; i++) s.append((char) c.outputByte(i));
        return s.toString();
    }

    /** All that can be seen of the canal, its error and its history, but for the output. */
    static String look(NoodleCanal c) {
        StringBuilder s = new StringBuilder();
        s.append(lookAtCanal(c)).append(" undoable ").append(c.undoableCount());
        s.append(" error ").append(c.errorCode()).append('@').append(c.errorOffset());
        return s.toString();
    }

    static String lookAtCanal(NoodleCanal c) {
        StringBuilder s = new StringBuilder("minute ").append(c.minute()).append(" coins ").append(c.coins());
        s.append(" eaten ").append(c.eatenBowls()).append(" expired ").append(c.expiredOrders());
        s.append(" share ").append(c.eatenShare()).append(" mean ").append(c.meanCleanPairs()).append(" gap ").append(c.gap());
        for (int i = 0; i < c.placeCount(); i++) {
            s.append("\nplace ").append(c.usedPairs(i)).append(' ').append(c.bargesAt(i)).append(' ').append(c.ordersAt(i));
            if (i < c.placeCount() - 1) {
                s.append(" section ").append(c.lockWait(i)).append(' ').append(c.clearance(i)).append(' ').append(c.bargeInLock(i));
            }
        }
        for (int i = 0; i < c.bargeCount(); i++) {
            s.append("\nbarge ").append(c.placeOf(i)).append(' ').append(c.targetOf(i)).append(' ').append(c.heightOf(i));
            s.append(' ').append(c.timeInLock(i)).append(' ').append(c.flour(i)).append(' ').append(c.cleanPairs(i));
            s.append(' ').append(c.dirtyPairs(i)).append(' ').append(c.readyCount(i)).append(' ').append(c.flourNeeded(i));
            for (int q = 0; q < c.queueLength(i); q++) s.append(" q").append(c.queuedOrder(i, q));
        }
        for (int i = 0; i < c.orderCount(); i++) {
            s.append("\norder ").append(c.orderPlace(i)).append(' ').append(c.bowls(i)).append(' ').append(c.pullsLeft(i));
            s.append(' ').append(c.deadline(i)).append(' ').append(c.price(i)).append(' ').append(c.bargeOf(i));
            s.append(' ').append(c.isOpen(i)).append(c.isReady(i)).append(c.isEaten(i));
        }
        return s.toString();
    }
}
