import java.util.ArrayList;
import java.util.List;
import java.util.NoSuchElementException;
import java.util.TreeSet;

/**
 * A second, slow writing of the document, made for comparing: it keeps whole lists,
 * copies all of them at every change and parses by exceptions.
 */
final class Model {
    static final class Barge {
        int place, target, height, lock, flour, clean, dirty;
        List<Integer> queue = new ArrayList<>();

        Barge copy() {
            Barge b = new Barge();
            b.place = place;
            b.target = target;
            b.height = height;
            b.lock = lock;
            b.flour = flour;
            b.clean = clean;
            b.dirty = dirty;
            b.queue = new ArrayList<>(queue);
            return b;
        }
    }

    static final class Order {
        int place, bowls, pulls, deadline, left;
        int barge = -1;
        String state = "open";
        boolean begun;

        Order copy() {
            Order o = new Order();
            o.place = place;
            o.bowls = bowls;
            o.pulls = pulls;
            o.deadline = deadline;
            o.left = left;
            o.barge = barge;
            o.state = state;
            o.begun = begun;
            return o;
        }
    }

    static final class State {
        int places, minute, coins;
        int[] wait, clearance, used;
        List<Barge> barges = new ArrayList<>();
        List<Order> orders = new ArrayList<>();

        State copy() {
            State s = new State();
            s.places = places;
            s.minute = minute;
            s.coins = coins;
            s.wait = wait.clone();
            s.clearance = clearance.clone();
            s.used = used.clone();
            for (Barge b : barges) s.barges.add(b.copy());
            for (Order o : orders) s.orders.add(o.copy());
            return s;
        }

        int section(Barge b) {
            return b.target > b.place ? b.place : b.place - 1;
        }

        int inLock(int section) {
            for (int i = 0; i < barges.size(); i++) {
                Barge b = barges.get(i);
                if (b.lock > 0 && section(b) == section) return i;
            }
            return -1;
        }

        void move(Barge b) {
            if (b.place == b.target) return;
            int next = b.place + Integer.signum(b.target - b.place);
            int s = section(b);
            if (b.lock > 0) {
                b.lock -= 1;
                if (b.lock == 0) b.place = next;
            } else if (wait[s] == 0) {
                b.place = next;
            } else if (inLock(s) == -1) {
                b.lock = wait[s];
            }
        }

        int minutePasses() {
            int eaten = 0;
            for (Barge b : barges) move(b);
            for (Barge b : barges) {
                if (b.queue.isEmpty()) continue;
                Order o = orders.get(b.queue.get(0));
                if (!o.begun && b.flour >= o.bowls) {
                    b.flour -= o.bowls;
                    o.begun = true;
                    o.left = o.pulls;
                }
                if (o.begun) {
                    o.left--;
                    if (o.left == 0) {
                        o.state = "ready";
                        b.queue.remove(0);
                    }
                }
            }
            for (int i = 0; i < barges.size(); i++) {
                Barge b = barges.get(i);
                if (b.lock > 0) continue;
                for (Order o : orders) {
                    if (o.state.equals("ready") && o.barge == i && o.place == b.place && b.clean >= o.bowls) {
                        o.state = "eaten";
                        o.barge = -1;
                        b.clean -= o.bowls;
                        used[b.place] += o.bowls;
                        coins += o.bowls * (3 + o.pulls);
                        eaten++;
                    }
                }
            }
            for (int i = 0; i < orders.size(); i++) {
                Order o = orders.get(i);
                if (o.state.equals("eaten") || o.state.equals("expired") || o.deadline != minute) continue;
                if (o.barge >= 0) barges.get(o.barge).queue.remove(Integer.valueOf(i));
                o.barge = -1;
                o.state = "expired";
                coins -= 2;
            }
            minute++;
            return eaten;
        }

        int count(String... states) {
            int n = 0;
            for (Order o : orders) for (String s : states) if (o.state.equals(s)) n++;
            return n;
        }

        int held(int barge) {
            int n = 0;
            for (Order o : orders) if (o.barge == barge) n++;
            return n;
        }

        int journey(int from, int to) {
            int time = 0;
            for (int s = Math.min(from, to); s < Math.max(from, to); s++) time += 1 + wait[s];
            return time;
        }
    }

    static final class ParseError extends Exception {
        final int code, offset;

        ParseError(int code, int offset) {
            this.code = code;
            this.offset = offset;
        }
    }

    static final class Token {
        final String text;
        final int offset;

        Token(String text, int offset) {
            this.text = text;
            this.offset = offset;
        }
    }

    static final class Step {
        String word;
        int[] n = new int[4];
        List<Step> inside = new ArrayList<>();
    }

    private State state;
    private State snapshot;
    private List<State> past = new ArrayList<>();
    private StringBuilder buffer = new StringBuilder();
    private String output = "";
    private int code = 0;
    private int offset = -1;
    private List<Token> tokens;
    private int at;
    private int steps;

    Model() {
        try {
            tokenize("canal 6;lock 1 3;bridge 3 4;lock 4 2;barge 0 3 10 6;barge 2 5 4 2;order 2 2 3 20;order 5 1 1 30;order 1 3 2 15;");
            state = canal();
        } catch (ParseError e) {
            throw new IllegalStateException("the first canal");
        }
    }

    // ---- text

    private void tokenize(String text) {
        tokens = new ArrayList<>();
        at = 0;
        java.util.regex.Matcher m = java.util.regex.Pattern.compile("[a-z]+|[0-9]+|[^ \\n]", java.util.regex.Pattern.DOTALL).matcher(text);
        while (m.find()) tokens.add(new Token(m.group(), m.start()));
        tokens.add(new Token("", text.length()));
    }

    private String peek() {
        return tokens.get(at).text;
    }

    private ParseError error(int code) {
        return new ParseError(code, tokens.get(at).offset);
    }

    private void expect(String text) throws ParseError {
        if (!peek().equals(text)) throw error(1);
        at++;
    }

    private int number(int least, int most) throws ParseError {
        if (!peek().matches("[0-9]+")) throw error(1);
        java.math.BigInteger n = new java.math.BigInteger(peek());
        if (n.compareTo(java.math.BigInteger.valueOf(least)) < 0 || n.compareTo(java.math.BigInteger.valueOf(most)) > 0) throw error(2);
        at++;
        return n.intValue();
    }

    private State canal() throws ParseError {
        State s = new State();
        expect("canal");
        s.places = number(3, 16);
        expect(";");
        s.wait = new int[s.places - 1];
        s.clearance = new int[s.places - 1];
        s.used = new int[s.places];
        while (peek().equals("lock") || peek().equals("bridge")) {
            int[] row = peek().equals("lock") ? s.wait : s.clearance;
            at++;
            int section = number(0, s.places - 2);
            if (row[section] != 0) {
                at--;
                throw error(3);
            }
            row[section] = number(1, 9);
            expect(";");
        }
        do {
            if (peek().equals("barge") && s.barges.size() == 5) throw error(4);
            expect("barge");
            Barge b = new Barge();
            b.place = number(0, s.places - 1);
            b.target = b.place;
            b.height = number(1, 9);
            b.flour = number(0, 99);
            b.clean = number(0, 99);
            s.barges.add(b);
            expect(";");
        } while (peek().equals("barge"));
        while (!peek().isEmpty()) {
            if (peek().equals("order") && s.orders.size() == 30) throw error(4);
            expect("order");
            Order o = new Order();
            o.place = number(0, s.places - 1);
            o.bowls = number(1, 4);
            o.pulls = number(1, 6);
            o.left = o.pulls;
            o.deadline = number(1, 500) - 1;
            s.orders.add(o);
            expect(";");
        }
        return s;
    }

    private List<Step> steps(String end, int repeats) throws ParseError {
        List<Step> list = new ArrayList<>();
        while (!peek().equals(end)) {
            list.add(step(repeats));
            expect(";");
        }
        return list;
    }

    private Step step(int repeats) throws ParseError {
        Step s = new Step();
        s.word = peek();
        if (!List.of("sail", "order", "take", "drop", "flour", "collect", "wash", "wait", "repeat").contains(s.word)) throw error(1);
        if (steps == 20) throw error(4);
        if (s.word.equals("repeat") && repeats == 2) throw error(4);
        steps++;
        at++;
        switch (s.word) {
            case "sail" -> s.n = new int[] {number(0, 4), number(0, 15)};
            case "order" -> s.n = new int[] {number(0, 15), number(1, 4), number(1, 6), number(1, 500)};
            case "take" -> s.n = new int[] {number(0, 4), number(0, 29)};
            case "drop" -> s.n = new int[] {number(0, 29)};
            case "flour" -> s.n = new int[] {number(0, 4), number(1, 99)};
            case "collect", "wash" -> s.n = new int[] {number(0, 4)};
            case "wait" -> s.n = new int[] {number(1, 60)};
            default -> {
                s.n = new int[] {number(2, 5)};
                expect("(");
                s.inside = steps(")", repeats + 1);
                expect(")");
            }
        }
        return s;
    }

    public int appendText(int a, int b, int c, int d, int e) {
        if (buffer.length() > 480) return -1;
        for (int n : new int[] {a, b, c, d, e}) {
            for (byte x : java.nio.ByteBuffer.allocate(4).putInt(n).array()) buffer.append((char) (x & 255));
        }
        return buffer.length();
    }

    private void startText(int length) {
        if (length < 0 || length > buffer.length()) throw new IllegalArgumentException();
        tokenize(buffer.substring(0, length));
        buffer = new StringBuilder();
        code = 0;
        offset = -1;
    }

    private int failed(ParseError e) {
        code = e.code;
        offset = e.offset;
        return -1;
    }

    public int loadCanal(int length) {
        startText(length);
        try {
            state = canal();
        } catch (ParseError e) {
            return failed(e);
        }
        past.clear();
        snapshot = null;
        return state.barges.size();
    }

    public int errorCode() {
        return code;
    }

    public int errorOffset() {
        return offset;
    }

    // ---- queries

    private static void index(int i, int size) {
        if (i < 0 || i >= size) throw new IndexOutOfBoundsException();
    }

    private static void range(int n, int least, int most) {
        if (n < least || n > most) throw new IllegalArgumentException();
    }

    private static void only(boolean possible) {
        if (!possible) throw new IllegalStateException();
    }

    private Barge barge(int b) {
        index(b, state.barges.size());
        return state.barges.get(b);
    }

    private Order order(int o) {
        index(o, state.orders.size());
        return state.orders.get(o);
    }

    public int minute() {
        return state.minute;
    }

    public int placeCount() {
        return state.places;
    }

    public int lockWait(int section) {
        index(section, state.places - 1);
        return state.wait[section];
    }

    public int clearance(int section) {
        index(section, state.places - 1);
        return state.clearance[section];
    }

    public int bargeInLock(int section) {
        index(section, state.places - 1);
        return state.inLock(section);
    }

    public int usedPairs(int place) {
        index(place, state.places);
        return state.used[place];
    }

    public int bargesAt(int place) {
        index(place, state.places);
        return (int) state.barges.stream().filter(b -> b.place == place && b.lock == 0).count();
    }

    public int ordersAt(int place) {
        index(place, state.places);
        return (int) state.orders.stream().filter(o -> o.place == place && List.of("open", "taken", "ready").contains(o.state)).count();
    }

    public int bargeCount() {
        return state.barges.size();
    }

    public int placeOf(int barge) {
        return barge(barge).place;
    }

    public int targetOf(int barge) {
        return barge(barge).target;
    }

    public int heightOf(int barge) {
        return barge(barge).height;
    }

    public int timeInLock(int barge) {
        return barge(barge).lock;
    }

    public int flour(int barge) {
        return barge(barge).flour;
    }

    public int cleanPairs(int barge) {
        return barge(barge).clean;
    }

    public int dirtyPairs(int barge) {
        return barge(barge).dirty;
    }

    public int queueLength(int barge) {
        return barge(barge).queue.size();
    }

    public int queuedOrder(int barge, int index) {
        List<Integer> queue = barge(barge).queue;
        return index < 0 || index >= queue.size() ? -1 : queue.get(index);
    }

    public int readyCount(int barge) {
        barge(barge);
        return (int) state.orders.stream().filter(o -> o.barge == barge && o.state.equals("ready")).count();
    }

    public int flourNeeded(int barge) {
        int sum = 0;
        for (int o : barge(barge).queue) if (!state.orders.get(o).begun) sum += state.orders.get(o).bowls;
        return sum;
    }

    public int orderCount() {
        return state.orders.size();
    }

    public int orderPlace(int order) {
        return order(order).place;
    }

    public int bowls(int order) {
        return order(order).bowls;
    }

    public int pullsLeft(int order) {
        return order(order).left;
    }

    public int deadline(int order) {
        return order(order).deadline;
    }

    public int price(int order) {
        return order(order).bowls * (3 + order(order).pulls);
    }

    public int bargeOf(int order) {
        return order(order).barge;
    }

    public boolean isOpen(int order) {
        return order(order).state.equals("open");
    }

    public boolean isReady(int order) {
        return order(order).state.equals("ready");
    }

    public boolean isEaten(int order) {
        return order(order).state.equals("eaten");
    }

    public int mostUrgentOrder() {
        TreeSet<Integer> open = new TreeSet<>();
        for (int i = 0; i < state.orders.size(); i++) if (isOpen(i)) open.add(deadline(i) * 100 + i);
        try {
            return open.first() % 100;
        } catch (NoSuchElementException e) {
            return -1;
        }
    }

    public int coins() {
        return state.coins;
    }

    public int eatenBowls() {
        int sum = 0;
        for (Order o : state.orders) if (o.state.equals("eaten")) sum += o.bowls;
        return sum;
    }

    public int expiredOrders() {
        return state.count("expired");
    }

    public double meanCleanPairs() {
        double sum = 0;
        for (Barge b : state.barges) sum += b.clean;
        return sum / state.barges.size();
    }

    public float eatenShare() {
        float finished = state.count("eaten", "expired");
        return finished == 0 ? 0 : state.count("eaten") / finished;
    }

    public int gap() {
        return 0;
    }

    // ---- forecasts

    public int sailObstacle(int barge, int place) {
        Barge b = barge(barge);
        index(place, state.places);
        if (b.lock > 0) return 1;
        if (b.target == place) return 2;
        for (int s = 0; s < state.places - 1; s++) {
            boolean onWay = s >= Math.min(b.place, place) && s + 1 <= Math.max(b.place, place);
            if (onWay && state.clearance[s] != 0 && state.clearance[s] < b.height) return 3;
        }
        return 0;
    }

    public int journeyTime(int from, int to) {
        index(from, state.places);
        index(to, state.places);
        return state.journey(from, to);
    }

    public int minutesToTarget(int barge) {
        barge(barge);
        State s = state.copy();
        for (int n = 0; n <= 200; n++) {
            if (s.barges.get(barge).place == s.barges.get(barge).target) return n;
            if (s.minute > 9999) return -1;
            s.minutePasses();
        }
        return -1;
    }

    private State after(int minutes) {
        State s = state.copy();
        for (int n = 0; n < minutes && s.minute <= 9999; n++) s.minutePasses();
        return s;
    }

    public boolean willBeEaten(int order) {
        order(order);
        return after(200).orders.get(order).state.equals("eaten");
    }

    public int coinsAfter(int minutes) {
        range(minutes, 0, 200);
        return after(minutes).coins;
    }

    public int nearestBarge(int order) {
        int place = order(order).place;
        int best = 0;
        for (int i = 1; i < state.barges.size(); i++) {
            if (state.journey(placeOf(i), place) < state.journey(placeOf(best), place)) best = i;
        }
        return best;
    }

    // ---- changes; each one looks first, then works

    private void keep() {
        past.add(state.copy());
        if (past.size() > 8) past.remove(0);
    }

    private int doSail(int barge, int place) {
        only(sailObstacle(barge, place) == 0);
        barge(barge).target = place;
        return journeyTime(placeOf(barge), place);
    }

    private int doOrder(int place, int bowls, int pulls, int minutes) {
        index(place, state.places);
        range(bowls, 1, 4);
        range(pulls, 1, 6);
        range(minutes, 1, 500);
        only(state.orders.size() < 30);
        Order o = new Order();
        o.place = place;
        o.bowls = bowls;
        o.pulls = pulls;
        o.left = pulls;
        o.deadline = state.minute + minutes - 1;
        state.orders.add(o);
        return state.orders.size() - 1;
    }

    private int doTake(int barge, int order) {
        Barge b = barge(barge);
        Order o = order(order);
        only(o.state.equals("open") && state.held(barge) < 4);
        o.state = "taken";
        o.barge = barge;
        b.queue.add(order);
        return b.queue.size();
    }

    private int doDrop(int order) {
        Order o = order(order);
        only(o.state.equals("taken") || o.state.equals("ready"));
        int barge = o.barge;
        state.barges.get(barge).queue.remove(Integer.valueOf(order));
        o.barge = -1;
        o.state = "open";
        o.begun = false;
        o.left = o.pulls;
        return barge;
    }

    private int doFlour(int barge, int units) {
        Barge b = barge(barge);
        range(units, 1, 99);
        only(b.lock == 0 && b.place == 0 && b.flour + units <= 99);
        b.flour += units;
        state.coins -= units;
        return b.flour;
    }

    private int doCollect(int barge) {
        Barge b = barge(barge);
        only(b.lock == 0);
        int n = state.used[b.place];
        state.used[b.place] = 0;
        b.dirty += n;
        return n;
    }

    private int doWash(int barge) {
        Barge b = barge(barge);
        only(b.lock == 0 && b.place == 0);
        b.clean += b.dirty;
        b.dirty = 0;
        return b.clean;
    }

    private int doPass(int minutes) {
        range(minutes, 1, 60);
        only(state.minute + minutes - 1 <= 9999);
        int eaten = 0;
        for (int i = 0; i < minutes; i++) eaten += state.minutePasses();
        return eaten;
    }

    private int perform(Step s) {
        return switch (s.word) {
            case "sail" -> doSail(s.n[0], s.n[1]);
            case "order" -> doOrder(s.n[0], s.n[1], s.n[2], s.n[3]);
            case "take" -> doTake(s.n[0], s.n[1]);
            case "drop" -> doDrop(s.n[0]);
            case "flour" -> doFlour(s.n[0], s.n[1]);
            case "collect" -> doCollect(s.n[0]);
            case "wash" -> doWash(s.n[0]);
            default -> doPass(s.n[0]);
        };
    }

    private int change(String word, int... n) {
        List<State> before = new ArrayList<>(past);
        keep();
        Step s = new Step();
        s.word = word;
        s.n = n;
        try {
            return perform(s);
        } catch (IndexOutOfBoundsException | IllegalArgumentException | IllegalStateException e) {
            past = before;
            throw e;
        }
    }

    public int sail(int barge, int place) {
        return change("sail", barge, place);
    }

    public int makeOrder(int place, int bowls, int pulls, int minutes) {
        return change("order", place, bowls, pulls, minutes);
    }

    public int take(int barge, int order) {
        return change("take", barge, order);
    }

    public int drop(int order) {
        return change("drop", order);
    }

    public int buyFlour(int barge, int units) {
        return change("flour", barge, units);
    }

    public int collect(int barge) {
        return change("collect", barge);
    }

    public int wash(int barge) {
        return change("wash", barge);
    }

    public int passMinutes(int minutes) {
        return change("wait", minutes);
    }

    private int performed;

    private void performAll(List<Step> list) {
        for (Step s : list) {
            if (s.word.equals("repeat")) {
                for (int i = 0; i < s.n[0]; i++) performAll(s.inside);
            } else {
                perform(s);
                performed++;
            }
        }
    }

    public int runScript(int length) {
        startText(length);
        steps = 0;
        List<Step> list;
        try {
            list = steps("", 0);
        } catch (ParseError e) {
            return failed(e);
        }
        keep();
        performed = 0;
        try {
            performAll(list);
        } catch (IndexOutOfBoundsException | IllegalArgumentException | IllegalStateException e) {
            return performed;
        }
        return performed;
    }

    // ---- output and history

    public int writeCanal() {
        StringBuilder s = new StringBuilder();
        for (int p = 0; p < state.places; p++) {
            if (p > 0) s.append(state.wait[p - 1] == 0 ? "-" : state.inLock(p - 1) >= 0 ? "=" : "|");
            s.append(bargesAt(p) == 0 ? "." : Integer.toString(bargesAt(p)));
        }
        output = s.toString();
        return output.length();
    }

    public int outputByte(int index) {
        index(index, output.length());
        return output.charAt(index);
    }

    public int undoableCount() {
        return past.size();
    }

    public int undo() {
        only(!past.isEmpty());
        state = past.remove(past.size() - 1);
        return past.size();
    }

    public void saveSnapshot() {
        snapshot = state.copy();
    }

    public int restoreSnapshot() {
        only(snapshot != null);
        state = snapshot.copy();
        past.clear();
        return state.minute;
    }
}
