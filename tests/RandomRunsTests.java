import java.lang.reflect.InvocationTargetException;
import java.lang.reflect.Method;
import java.nio.ByteBuffer;
import java.nio.charset.StandardCharsets;
import java.util.ArrayList;
import java.util.Arrays;
import java.util.Comparator;
import java.util.List;
import java.util.Random;

/** Runs of 512 drawn calls on a NoodleCanal and on the Model, which must answer alike. */
final class RandomRunsTests {
    private static final int RUNS = Integer.getInteger("runs", 800);
    private static final int CALLS = 512;
    private static final String[] CHANGES = {
        "sail", "sail", "sail", "makeOrder", "makeOrder", "take", "take", "take", "drop", "buyFlour",
        "collect", "wash", "passMinutes", "passMinutes", "passMinutes"};

    private final Random random;
    private final NoodleCanal canal = new NoodleCanal();
    private final Model model = new Model();
    private final List<Method> questions = new ArrayList<>();
    private final List<String> told = new ArrayList<>();
    private int calls = 0;

    private RandomRunsTests(long seed) {
        random = new Random(seed);
        Method[] methods = NoodleCanal.class.getDeclaredMethods();
        Arrays.sort(methods, Comparator.comparing(Method::getName));
        List<String> others = new ArrayList<>(List.of("appendText", "loadCanal", "runScript", "undo", "saveSnapshot", "restoreSnapshot"));
        others.addAll(List.of(CHANGES));
        for (Method m : methods) {
            if (java.lang.reflect.Modifier.isPublic(m.getModifiers()) && !others.contains(m.getName())) questions.add(m);
        }
    }

    static void run() {
        for (int first = 0; first < RUNS; first += 100) {
            int from = first;
            Kit.test(0, "drawn runs from " + from, () -> {
                for (int seed = from; seed < from + 100 && seed < RUNS; seed++) new RandomRunsTests(seed).play(seed);
            });
        }
    }

    private void play(int seed) {
        int style = seed % 4;
        if (style != 0) text("loadCanal", canalText());
        if (style == 3) for (int i = 0; i < 6; i++) text("runScript", "repeat5(repeat5(wait60;););");
        while (calls < CALLS) {
            int draw = random.nextInt(100);
            if (draw < 45) {
                ask();
            } else if (draw < 85) {
                change();
            } else if (draw < 91) {
                text("runScript", random.nextInt(4) == 0 ? spoilt(scriptText()) : scriptText());
            } else if (draw < 93) {
                text("loadCanal", random.nextInt(3) != 0 ? spoilt(canalText()) : canalText());
            } else if (draw < 96) {
                call("undo");
            } else if (draw < 97) {
                call("saveSnapshot");
            } else if (draw < 98) {
                call("restoreSnapshot");
            } else if (draw < 99) {
                call(random.nextBoolean() ? "loadCanal" : "runScript", random.nextInt(5) - 2);
            } else {
                call("appendText", random.nextInt(), random.nextInt(), random.nextInt(), random.nextInt(), random.nextInt());
            }
        }
    }

    private void ask() {
        Method m = questions.get(random.nextInt(questions.size()));
        int[] arguments = new int[m.getParameterCount()];
        for (int i = 0; i < arguments.length; i++) arguments[i] = argument(m.getName(), i);
        call(m.getName(), arguments);
    }

    private void change() {
        String name = CHANGES[random.nextInt(CHANGES.length)];
        switch (name) {
            case "makeOrder" -> call(name, place(), near(1, 4), near(1, 6), random.nextInt(3) == 0 ? near(1, 500) : near(1, 25));
            case "buyFlour" -> call(name, barge(), random.nextInt(3) == 0 ? near(1, 99) : near(1, 20));
            case "passMinutes" -> call(name, random.nextInt(4) == 0 ? near(1, 60) : near(1, 4));
            case "sail" -> call(name, barge(), place());
            case "take" -> call(name, barge(), order());
            case "drop" -> call(name, order());
            default -> call(name, barge());
        }
    }

    private int argument(String name, int index) {
        switch (name) {
            case "lockWait": case "clearance": case "bargeInLock":
                return near(0, model.placeCount() - 2);
            case "usedPairs": case "bargesAt": case "ordersAt": case "journeyTime":
                return place();
            case "queuedOrder":
                return index == 0 ? barge() : near(0, 3);
            case "sailObstacle":
                return index == 0 ? barge() : place();
            case "orderPlace": case "bowls": case "pullsLeft": case "deadline": case "price": case "bargeOf":
            case "isOpen": case "isReady": case "isEaten": case "willBeEaten": case "nearestBarge":
                return order();
            case "coinsAfter":
                return near(0, 200);
            case "outputByte":
                return near(0, 2 * model.placeCount() - 2);
            default:
                return barge();
        }
    }

    private int barge() {
        return near(0, model.bargeCount() - 1);
    }

    private int place() {
        return near(0, model.placeCount() - 1);
    }

    private int order() {
        return near(0, model.orderCount() - 1);
    }

    /** A number of the range, now and then one just outside of it or far away. */
    private int near(int least, int most) {
        int draw = random.nextInt(60);
        if (draw == 0) return least - 1;
        if (draw == 1) return most + 1;
        if (draw == 2) return random.nextBoolean() ? Integer.MIN_VALUE : Integer.MAX_VALUE;
        return most < least ? least : least + random.nextInt(most - least + 1);
    }

    private String canalText() {
        StringBuilder s = new StringBuilder("canal ");
        int places = 3 + (random.nextInt(3) == 0 ? random.nextInt(14) : random.nextInt(4));
        s.append(places).append(';');
        int[] fronts = new int[2];
        for (int i = 0; i < places - 1; i++) {
            if (random.nextInt(2) == 0) s.append("lock ").append(i).append(' ').append(1 + random.nextInt(random.nextInt(5) == 0 ? 9 : 3)).append(';');
            if (random.nextInt(5) == 0) s.append("bridge ").append(i).append(' ').append(1 + random.nextInt(9)).append(';');
        }
        int barges = 1 + random.nextInt(5);
        for (int i = 0; i < barges; i++) {
            s.append("barge ").append(random.nextInt(places)).append(' ').append(1 + random.nextInt(random.nextInt(3) == 0 ? 9 : 3));
            s.append(' ').append(random.nextInt(100) / (1 + random.nextInt(9))).append(' ').append(random.nextInt(100) / (1 + random.nextInt(20))).append(';');
        }
        int orders = random.nextInt(6);
        for (int i = 0; i < orders; i++) s.append("order ").append(orderNumbers(places)).append(';');
        return s.length() > 480 ? "canal 3;barge 0 1 9 9;" : s.toString();
    }

    private String orderNumbers(int places) {
        int minutes = random.nextInt(3) == 0 ? 1 + random.nextInt(500) : 1 + random.nextInt(30);
        return random.nextInt(places) + " " + (1 + random.nextInt(4)) + " " + (1 + random.nextInt(6)) + " " + minutes;
    }

    private String scriptText() {
        StringBuilder s = new StringBuilder();
        int commands = random.nextInt(8);
        for (int i = 0; i < commands; i++) s.append(command(0)).append(';');
        return s.length() > 480 ? "" : s.toString();
    }

    private String command(int depth) {
        int barge = random.nextInt(Math.min(5, model.bargeCount()));
        int order = random.nextInt(Math.min(30, model.orderCount() + 1));
        int places = random.nextInt(20) == 0 ? 16 : model.placeCount();
        switch (random.nextInt(depth < 3 ? 12 : 11)) {
            case 0: case 1: return "sail " + barge + " " + random.nextInt(places);
            case 2: return "order " + orderNumbers(places);
            case 3: case 4: return "take " + barge + " " + order;
            case 5: return "drop " + order;
            case 6: return "flour " + barge + " " + (1 + random.nextInt(9));
            case 7: return "collect " + barge;
            case 8: return "wash " + barge;
            case 9: case 10: return "wait " + (1 + random.nextInt(random.nextInt(5) == 0 ? 60 : 4));
            default:
                StringBuilder s = new StringBuilder("repeat ").append(2 + random.nextInt(4)).append(" (");
                int inside = random.nextInt(4);
                for (int i = 0; i < inside; i++) s.append(command(depth + 1)).append(';');
                return s.append(")").toString();
        }
    }

    private String spoilt(String text) {
        StringBuilder s = new StringBuilder(text);
        String[] pieces = {";", "(", ")", " ", "\n", "lock 0 1;", "bridge 1 2;", "barge 0 1 1 1;", "order 0 1 1 1;", "0", "9", "a", "A", "\t", "\u00e9", "wait 1;", "repeat 2(", "000000000000000000001", "99999999999999999999", "\u0000"};
        int times = 1 + random.nextInt(2);
        for (int i = 0; i < times; i++) {
            int at = random.nextInt(s.length() + 1);
            if (random.nextBoolean()) {
                s.insert(at, pieces[random.nextInt(pieces.length)]);
            } else if (at < s.length()) {
                s.deleteCharAt(at);
            }
        }
        return s.length() > 500 ? text : s.toString();
    }

    private void text(String method, String text) {
        byte[] bytes = text.getBytes(StandardCharsets.ISO_8859_1);
        ByteBuffer in = ByteBuffer.wrap(Arrays.copyOf(bytes, (bytes.length + 19) / 20 * 20));
        while (in.hasRemaining()) call("appendText", in.getInt(), in.getInt(), in.getInt(), in.getInt(), in.getInt());
        call(method, bytes.length);
    }

    private void call(String name, int... arguments) {
        if (calls == CALLS) return;
        calls++;
        told.add(name + Arrays.toString(arguments));
        Object got = answer(canal, name, arguments);
        Object want = answer(model, name, arguments);
        if (!String.valueOf(got).equals(String.valueOf(want))) {
            throw new AssertionError("call " + calls + " answered " + got + ", due is " + want + " in the run\n" + String.join("\n", told));
        }
    }

    private static Object answer(Object target, String name, int... arguments) {
        Class<?>[] types = new Class<?>[arguments.length];
        Arrays.fill(types, int.class);
        try {
            return target.getClass().getDeclaredMethod(name, types).invoke(target, Arrays.stream(arguments).boxed().toArray());
        } catch (InvocationTargetException e) {
            return "throws." + e.getCause().getClass().getSimpleName();
        } catch (ReflectiveOperationException e) {
            throw new IllegalStateException(e);
        }
    }
}
