/** A model of barges with kitchens on a canal. */
public final class NoodleCanal {
    private static final String FIRST_CANAL = "canal 6;lock 1 3;bridge 3 4;lock 4 2;barge 0 3 10 6;barge 2 5 4 2;order 2 2 3 20;order 5 1 1 30;order 1 3 2 15;";

    private static final int NONE = -1;
    private static final int HARBOR = 0;
    private static final int LEAST_PLACES = 3;
    private static final int MOST_PLACES = 16;
    private static final int MOST_WAIT = 9;
    private static final int MOST_CLEARANCE = 9;
    private static final int MOST_BARGES = 5;
    private static final int MOST_HEIGHT = 9;
    private static final int MOST_FLOUR = 99;
    private static final int MOST_PAIRS = 99;
    private static final int MOST_ORDERS = 30;
    private static final int MOST_BOWLS = 4;
    private static final int MOST_PULLS = 6;
    private static final int MOST_ORDER_MINUTES = 500;
    private static final int MOST_HELD_ORDERS = 4;
    private static final int PRICE_BESIDE_PULLS = 3;
    private static final int EXPIRY_LOSS = 2;
    private static final int MINUTES_IN_ALL = 10000;
    private static final int MOST_MINUTES_AT_ONCE = 60;
    private static final int MOST_FORECAST_MINUTES = 200;
    private static final int INPUT_SIZE = 500;
    private static final int APPENDED_BYTES = 20;
    private static final int MOST_COMMANDS = 20;
    private static final int LEAST_TIMES = 2;
    private static final int MOST_TIMES = 5;
    private static final int MOST_NESTED_REPEATS = 2;
    private static final int MOST_UNDOABLE = 8;

    private static final int NOT_ALLOWED = 1;
    private static final int OUT_OF_RANGE = 2;
    private static final int HAS_IT_ALREADY = 3;
    private static final int TOO_MANY = 4;

    private static final Verb[] VERBS = Verb.values();

    private final TextInput input = new TextInput();
    private final Script script = new Script();
    private final History history = new History();
    private final Canal snapshot = new Canal();
    private boolean hasSnapshot = false;
    private Canal canal = new Canal();
    // Holds a canal while it is parsed, and the future while it is forecast.
    private Canal draft = new Canal();
    private final byte[] output = new byte[2 * MOST_PLACES - 1];
    private int outputLength = 0;

    public NoodleCanal() {
        input.appendSigns(FIRST_CANAL);
        input.begin(FIRST_CANAL.length());
        CanalParser.parse(input, canal);
        input.empty();
    }

    public int appendText(int a, int b, int c, int d, int e) {
        if (!input.hasRoomFor(APPENDED_BYTES)) {
            return -1;
        }
        input.appendInt(a);
        input.appendInt(b);
        input.appendInt(c);
        input.appendInt(d);
        input.appendInt(e);
        return input.filled;
    }

    public int loadCanal(int length) throws IllegalArgumentException {
        requireText(length);
        input.begin(length);
        CanalParser.parse(input, draft);
        input.empty();
        if (input.failed()) {
            return -1;
        }
        Canal replaced = canal;
        canal = draft;
        draft = replaced;
        history.clear();
        hasSnapshot = false;
        return canal.bargeCount;
    }

    public int errorCode() {
        return input.failure;
    }

    public int errorOffset() {
        return input.failureOffset;
    }

    public int minute() {
        return canal.minute;
    }

    public int placeCount() {
        return canal.placeCount;
    }

    public int lockWait(int section) throws IndexOutOfBoundsException {
        return sectionAt(section).waitingTime;
    }

    public int clearance(int section) throws IndexOutOfBoundsException {
        return sectionAt(section).clearance;
    }

    public int bargeInLock(int section) throws IndexOutOfBoundsException {
        return sectionAt(section).bargeInside;
    }

    public int usedPairs(int place) throws IndexOutOfBoundsException {
        requirePlace(place);
        return canal.used[place];
    }

    public int bargesAt(int place) throws IndexOutOfBoundsException {
        requirePlace(place);
        return canal.countBargesAt(place);
    }

    public int ordersAt(int place) throws IndexOutOfBoundsException {
        requirePlace(place);
        return canal.countOrdersAt(place);
    }

    public int bargeCount() {
        return canal.bargeCount;
    }

    public int placeOf(int barge) throws IndexOutOfBoundsException {
        return bargeAt(barge).place;
    }

    public int targetOf(int barge) throws IndexOutOfBoundsException {
        return bargeAt(barge).target;
    }

    public int heightOf(int barge) throws IndexOutOfBoundsException {
        return bargeAt(barge).height;
    }

    public int timeInLock(int barge) throws IndexOutOfBoundsException {
        return bargeAt(barge).timeLeft;
    }

    public int flour(int barge) throws IndexOutOfBoundsException {
        return bargeAt(barge).flour;
    }

    public int cleanPairs(int barge) throws IndexOutOfBoundsException {
        return bargeAt(barge).clean;
    }

    public int dirtyPairs(int barge) throws IndexOutOfBoundsException {
        return bargeAt(barge).dirty;
    }

    public int queueLength(int barge) throws IndexOutOfBoundsException {
        return bargeAt(barge).queued;
    }

    public int queuedOrder(int barge, int index) throws IndexOutOfBoundsException {
        return bargeAt(barge).queuedAt(index);
    }

    public int readyCount(int barge) throws IndexOutOfBoundsException {
        requireBarge(barge);
        return canal.countHeldBy(barge) - bargeAt(barge).queued;
    }

    public int flourNeeded(int barge) throws IndexOutOfBoundsException {
        return canal.bowlsNotBegun(bargeAt(barge));
    }

    public int orderCount() {
        return canal.orderCount;
    }

    public int orderPlace(int order) throws IndexOutOfBoundsException {
        return orderAt(order).place;
    }

    public int bowls(int order) throws IndexOutOfBoundsException {
        return orderAt(order).bowls;
    }

    public int pullsLeft(int order) throws IndexOutOfBoundsException {
        return orderAt(order).pullsLeft;
    }

    public int deadline(int order) throws IndexOutOfBoundsException {
        return orderAt(order).deadline;
    }

    public int price(int order) throws IndexOutOfBoundsException {
        return orderAt(order).worth();
    }

    public int bargeOf(int order) throws IndexOutOfBoundsException {
        return orderAt(order).barge;
    }

    public boolean isOpen(int order) throws IndexOutOfBoundsException {
        return orderAt(order).state == OrderState.OPEN;
    }

    public boolean isReady(int order) throws IndexOutOfBoundsException {
        return orderAt(order).state == OrderState.READY;
    }

    public boolean isEaten(int order) throws IndexOutOfBoundsException {
        return orderAt(order).state == OrderState.EATEN;
    }

    public int mostUrgentOrder() {
        return canal.firstOpenByDeadline();
    }

    public int coins() {
        return canal.coins;
    }

    public int eatenBowls() {
        return canal.eatenBowls;
    }

    public int expiredOrders() {
        return canal.expired;
    }

    public double meanCleanPairs() {
        if (canal.bargeCount < 1) {
            return 0.0;
        }
        return (double) canal.sumOfCleanPairs() / (double) canal.bargeCount;
    }

    public float eatenShare() {
        int finished = canal.eaten + canal.expired;
        if (finished < 1) {
            return 0.0f;
        }
        return (float) canal.eaten / (float) finished;
    }

    public int gap() {
        return canal.pairsGap() + canal.bowlsGap();
    }

    public int sailObstacle(int barge, int place) throws IndexOutOfBoundsException {
        requireBarge(barge);
        requirePlace(place);
        return canal.obstacleFor(barge, place);
    }

    public int journeyTime(int from, int to) throws IndexOutOfBoundsException {
        requirePlace(from);
        requirePlace(to);
        return canal.timeBetween(from, to);
    }

    public int minutesToTarget(int barge) throws IndexOutOfBoundsException {
        requireBarge(barge);
        draft.copyFrom(canal);
        for (int passed = 0; passed <= MOST_FORECAST_MINUTES; passed++) {
            if (!draft.isSailing(barge)) {
                return passed;
            }
            draft.passAtMost(1);
        }
        return -1;
    }

    public boolean willBeEaten(int order) throws IndexOutOfBoundsException {
        requireOrder(order);
        draft.copyFrom(canal);
        draft.passAtMost(MOST_FORECAST_MINUTES);
        return draft.wasEaten(order);
    }

    public int coinsAfter(int minutes) throws IllegalArgumentException {
        requireRange(minutes, 0, MOST_FORECAST_MINUTES);
        draft.copyFrom(canal);
        draft.passAtMost(minutes);
        return draft.coins;
    }

    public int nearestBarge(int order) throws IndexOutOfBoundsException {
        return canal.bargeNearestTo(orderAt(order).place);
    }

    public int sail(int barge, int place) throws IndexOutOfBoundsException, IllegalStateException {
        requireBarge(barge);
        requirePlace(place);
        requireState(canal.canSail(barge, place));
        history.remember(canal);
        canal.setTarget(barge, place);
        return canal.timeBetween(bargeAt(barge).place, place);
    }

    public int makeOrder(int place, int bowls, int pulls, int minutes)
            throws IndexOutOfBoundsException, IllegalArgumentException, IllegalStateException {
        requirePlace(place);
        requireRange(bowls, 1, MOST_BOWLS);
        requireRange(pulls, 1, MOST_PULLS);
        requireRange(minutes, 1, MOST_ORDER_MINUTES);
        requireState(canal.canAddOrder(place));
        history.remember(canal);
        canal.addOrder(place, bowls, pulls, minutes);
        return canal.orderCount - 1;
    }

    public int take(int barge, int order) throws IndexOutOfBoundsException, IllegalStateException {
        requireBarge(barge);
        requireOrder(order);
        requireState(canal.canGive(barge, order));
        history.remember(canal);
        canal.give(barge, order);
        return bargeAt(barge).queued;
    }

    public int drop(int order) throws IndexOutOfBoundsException, IllegalStateException {
        requireOrder(order);
        requireState(canal.canReopen(order));
        history.remember(canal);
        int holder = orderAt(order).barge;
        canal.reopen(order);
        return holder;
    }

    public int buyFlour(int barge, int units)
            throws IndexOutOfBoundsException, IllegalArgumentException, IllegalStateException {
        requireBarge(barge);
        requireRange(units, 1, MOST_FLOUR);
        requireState(canal.canLoadFlour(barge, units));
        history.remember(canal);
        canal.loadFlour(barge, units);
        return bargeAt(barge).flour;
    }

    public int collect(int barge) throws IndexOutOfBoundsException, IllegalStateException {
        requireBarge(barge);
        requireState(canal.canGather(barge));
        history.remember(canal);
        int dirtyBefore = bargeAt(barge).dirty;
        canal.gather(barge);
        return bargeAt(barge).dirty - dirtyBefore;
    }

    public int wash(int barge) throws IndexOutOfBoundsException, IllegalStateException {
        requireBarge(barge);
        requireState(canal.isInHarbor(barge));
        history.remember(canal);
        canal.clean(barge);
        return bargeAt(barge).clean;
    }

    public int passMinutes(int minutes) throws IllegalArgumentException, IllegalStateException {
        requireRange(minutes, 1, MOST_MINUTES_AT_ONCE);
        requireState(canal.canPass(minutes));
        history.remember(canal);
        int eatenBefore = canal.eaten;
        canal.passAtMost(minutes);
        return canal.eaten - eatenBefore;
    }

    public int runScript(int length) throws IllegalArgumentException {
        requireText(length);
        input.begin(length);
        script.parse(input);
        input.empty();
        if (input.failed()) {
            return -1;
        }
        history.remember(canal);
        return script.executeOn(canal);
    }

    public int writeCanal() {
        outputLength = 0;
        for (int place = 0; place < canal.placeCount; place++) {
            if (place > 0) {
                writeSign(canal.signOfSection(place - 1));
            }
            writeSign(canal.signOfPlace(place));
        }
        return outputLength;
    }

    public int outputByte(int index) throws IndexOutOfBoundsException {
        if (index < 0 || index >= outputLength) {
            throw new IndexOutOfBoundsException("no such byte");
        }
        return output[index];
    }

    public int undoableCount() {
        return history.count;
    }

    public int undo() throws IllegalStateException {
        requireState(history.count > 0);
        history.takeBack(canal);
        return history.count;
    }

    public void saveSnapshot() {
        snapshot.copyFrom(canal);
        hasSnapshot = true;
    }

    public int restoreSnapshot() throws IllegalStateException {
        requireState(hasSnapshot);
        canal.copyFrom(snapshot);
        history.clear();
        return canal.minute;
    }

    private void writeSign(char sign) {
        if (outputLength < output.length) {
            output[outputLength] = (byte) sign;
            outputLength++;
        }
    }

    private Section sectionAt(int section) {
        if (!canal.hasSection(section)) {
            throw new IndexOutOfBoundsException("no such section");
        }
        return canal.sections[section];
    }

    private Barge bargeAt(int barge) {
        requireBarge(barge);
        return canal.barges[barge];
    }

    private Order orderAt(int order) {
        requireOrder(order);
        return canal.orders[order];
    }

    private void requirePlace(int place) {
        if (!canal.hasPlace(place)) {
            throw new IndexOutOfBoundsException("no such place");
        }
    }

    private void requireBarge(int barge) {
        if (!canal.hasBarge(barge)) {
            throw new IndexOutOfBoundsException("no such barge");
        }
    }

    private void requireOrder(int order) {
        if (!canal.hasOrder(order)) {
            throw new IndexOutOfBoundsException("no such order");
        }
    }

    private void requireText(int length) {
        if (length < 0 || length > input.filled) {
            throw new IllegalArgumentException("not that many bytes in the buffer");
        }
    }

    private static void requireRange(int number, int least, int most) {
        if (number < least || number > most) {
            throw new IllegalArgumentException("out of range");
        }
    }

    private static void requireState(boolean allowed) {
        if (!allowed) {
            throw new IllegalStateException("not possible now");
        }
    }

    private enum OrderState {
        OPEN, TAKEN, READY, EATEN, EXPIRED
    }

    private enum Verb {
        SAIL("sail"),
        ORDER("order"),
        TAKE("take"),
        DROP("drop"),
        FLOUR("flour"),
        COLLECT("collect"),
        WASH("wash"),
        WAIT("wait"),
        REPEAT("repeat");

        final String word;

        Verb(String word) {
            this.word = word;
        }
    }

    /** The stretch between two neighbouring places; 0 stands for no lock and for no bridge. */
    private static final class Section {
        int waitingTime = 0;
        int clearance = 0;
        int bargeInside = NONE;

        void clear() {
            waitingTime = 0;
            clearance = 0;
            bargeInside = NONE;
        }

        void copyFrom(Section other) {
            waitingTime = other.waitingTime;
            clearance = other.clearance;
            bargeInside = other.bargeInside;
        }
    }

    private static final class Barge {
        int place = 0;
        int target = 0;
        int height = 0;
        // 0 outside of locks, as a lock that is entered takes one minute at least.
        int timeLeft = 0;
        int flour = 0;
        int clean = 0;
        int dirty = 0;
        final int[] queue = new int[MOST_HELD_ORDERS];
        int queued = 0;

        void reset(int newPlace, int newHeight, int newFlour, int newPairs) {
            place = newPlace;
            target = newPlace;
            height = newHeight;
            timeLeft = 0;
            flour = newFlour;
            clean = newPairs;
            dirty = 0;
            queued = 0;
        }

        void copyFrom(Barge other) {
            place = other.place;
            target = other.target;
            height = other.height;
            timeLeft = other.timeLeft;
            flour = other.flour;
            clean = other.clean;
            dirty = other.dirty;
            queued = other.queued;
            System.arraycopy(other.queue, 0, queue, 0, queue.length);
        }

        boolean isInLock() {
            return timeLeft > 0;
        }

        boolean isUnderWay() {
            return target != place;
        }

        int queuedAt(int index) {
            if (index < 0 || index >= queued || index >= queue.length) {
                return NONE;
            }
            return queue[index];
        }

        void enqueue(int order) {
            if (queued < queue.length) {
                queue[queued] = order;
                queued++;
            }
        }

        void unqueue(int order) {
            int kept = 0;
            for (int i = 0; i < queued && i < queue.length; i++) {
                if (queue[i] != order) {
                    queue[kept] = queue[i];
                    kept++;
                }
            }
            queued = kept;
        }
    }

    private static final class Order {
        int place = 0;
        int bowls = 0;
        int pulls = 0;
        int pullsLeft = 0;
        int deadline = 0;
        boolean begun = false;
        OrderState state = OrderState.OPEN;
        int barge = NONE;

        void reset(int newPlace, int newBowls, int newPulls, int newDeadline) {
            place = newPlace;
            bowls = newBowls;
            pulls = newPulls;
            deadline = newDeadline;
            open();
        }

        void copyFrom(Order other) {
            place = other.place;
            bowls = other.bowls;
            pulls = other.pulls;
            pullsLeft = other.pullsLeft;
            deadline = other.deadline;
            begun = other.begun;
            state = other.state;
            barge = other.barge;
        }

        void open() {
            state = OrderState.OPEN;
            barge = NONE;
            begun = false;
            pullsLeft = pulls;
        }

        void finish(OrderState end) {
            state = end;
            barge = NONE;
        }

        boolean isHeld() {
            return state == OrderState.TAKEN || state == OrderState.READY;
        }

        boolean canStillBeEaten() {
            return state == OrderState.OPEN || isHeld();
        }

        int worth() {
            return bowls * (PRICE_BESIDE_PULLS + pulls);
        }
    }

    /** All that undo and the snapshot bring back. */
    private static final class Canal {
        int placeCount = LEAST_PLACES;
        final Section[] sections = new Section[MOST_PLACES - 1];
        final int[] used = new int[MOST_PLACES];
        final int[] eatenBowlsAt = new int[MOST_PLACES];
        int bargeCount = 0;
        final Barge[] barges = new Barge[MOST_BARGES];
        int orderCount = 0;
        final Order[] orders = new Order[MOST_ORDERS];
        int minute = 0;
        int coins = 0;
        int loadedPairs = 0;
        int eatenBowls = 0;
        int eaten = 0;
        int expired = 0;

        Canal() {
            for (int i = 0; i < sections.length; i++) {
                sections[i] = new Section();
            }
            for (int i = 0; i < barges.length; i++) {
                barges[i] = new Barge();
            }
            for (int i = 0; i < orders.length; i++) {
                orders[i] = new Order();
            }
        }

        void clear(int places) {
            placeCount = places;
            bargeCount = 0;
            orderCount = 0;
            minute = 0;
            coins = 0;
            loadedPairs = 0;
            eatenBowls = 0;
            eaten = 0;
            expired = 0;
            for (int i = 0; i < sections.length; i++) {
                sections[i].clear();
            }
            for (int i = 0; i < used.length; i++) {
                used[i] = 0;
                eatenBowlsAt[i] = 0;
            }
        }

        void copyFrom(Canal other) {
            placeCount = other.placeCount;
            bargeCount = other.bargeCount;
            orderCount = other.orderCount;
            minute = other.minute;
            coins = other.coins;
            loadedPairs = other.loadedPairs;
            eatenBowls = other.eatenBowls;
            eaten = other.eaten;
            expired = other.expired;
            for (int i = 0; i < sections.length; i++) {
                sections[i].copyFrom(other.sections[i]);
            }
            System.arraycopy(other.used, 0, used, 0, used.length);
            System.arraycopy(other.eatenBowlsAt, 0, eatenBowlsAt, 0, eatenBowlsAt.length);
            for (int i = 0; i < bargeCount; i++) {
                barges[i].copyFrom(other.barges[i]);
            }
            for (int i = 0; i < orderCount; i++) {
                orders[i].copyFrom(other.orders[i]);
            }
        }

        boolean hasPlace(int place) {
            return place >= 0 && place < placeCount;
        }

        boolean hasSection(int section) {
            return section >= 0 && section < placeCount - 1;
        }

        boolean hasBarge(int barge) {
            return barge >= 0 && barge < bargeCount;
        }

        boolean hasOrder(int order) {
            return order >= 0 && order < orderCount;
        }

        void addBarge(int place, int height, int flour, int pairs) {
            if (bargeCount < barges.length) {
                barges[bargeCount].reset(place, height, flour, pairs);
                bargeCount++;
                loadedPairs += pairs;
            }
        }

        boolean canAddOrder(int place) {
            return hasPlace(place) && orderCount < orders.length;
        }

        void addOrder(int place, int bowls, int pulls, int minutes) {
            if (canAddOrder(place)) {
                orders[orderCount].reset(place, bowls, pulls, minute + minutes - 1);
                orderCount++;
            }
        }

        int countBargesAt(int place) {
            int count = 0;
            for (int i = 0; i < bargeCount; i++) {
                if (barges[i].place == place && !barges[i].isInLock()) {
                    count++;
                }
            }
            return count;
        }

        int countOrdersAt(int place) {
            int count = 0;
            for (int i = 0; i < orderCount; i++) {
                if (orders[i].place == place && orders[i].canStillBeEaten()) {
                    count++;
                }
            }
            return count;
        }

        int countHeldBy(int barge) {
            int count = 0;
            for (int i = 0; i < orderCount; i++) {
                if (orders[i].barge == barge && orders[i].isHeld()) {
                    count++;
                }
            }
            return count;
        }

        int bowlsNotBegun(Barge barge) {
            int bowls = 0;
            for (int i = 0; i < barge.queued; i++) {
                int order = barge.queuedAt(i);
                if (hasOrder(order) && !orders[order].begun) {
                    bowls += orders[order].bowls;
                }
            }
            return bowls;
        }

        int firstOpenByDeadline() {
            int best = NONE;
            int bestDeadline = 0;
            for (int i = 0; i < orderCount; i++) {
                if (orders[i].state == OrderState.OPEN && (best == NONE || orders[i].deadline < bestDeadline)) {
                    best = i;
                    bestDeadline = orders[i].deadline;
                }
            }
            return best;
        }

        int sumOfCleanPairs() {
            int sum = 0;
            for (int i = 0; i < bargeCount; i++) {
                sum += barges[i].clean;
            }
            return sum;
        }

        int pairsGap() {
            int found = sumOfCleanPairs();
            for (int i = 0; i < bargeCount; i++) {
                found += barges[i].dirty;
            }
            for (int i = 0; i < used.length; i++) {
                found += used[i];
            }
            return Math.abs(loadedPairs - found);
        }

        int bowlsGap() {
            int found = 0;
            for (int i = 0; i < eatenBowlsAt.length; i++) {
                found += eatenBowlsAt[i];
            }
            return Math.abs(eatenBowls - found);
        }

        boolean wasEaten(int order) {
            return hasOrder(order) && orders[order].state == OrderState.EATEN;
        }

        boolean isSailing(int barge) {
            return hasBarge(barge) && barges[barge].isUnderWay();
        }

        int obstacleFor(int barge, int place) {
            if (!hasBarge(barge) || barges[barge].isInLock()) {
                return 1;
            }
            if (barges[barge].target == place) {
                return 2;
            }
            return fitsUnderBridges(barges[barge], place) ? 0 : 3;
        }

        private boolean fitsUnderBridges(Barge barge, int place) {
            int last = Math.max(barge.place, place);
            for (int i = Math.min(barge.place, place); i < last; i++) {
                if (hasSection(i) && sections[i].clearance > 0 && sections[i].clearance < barge.height) {
                    return false;
                }
            }
            return true;
        }

        int timeBetween(int from, int to) {
            int time = 0;
            int last = Math.max(from, to);
            for (int i = Math.min(from, to); i < last; i++) {
                if (hasSection(i)) {
                    time += 1 + sections[i].waitingTime;
                }
            }
            return time;
        }

        int bargeNearestTo(int place) {
            int best = NONE;
            int bestTime = 0;
            for (int i = 0; i < bargeCount; i++) {
                int time = timeBetween(barges[i].place, place);
                if (best == NONE || time < bestTime) {
                    best = i;
                    bestTime = time;
                }
            }
            return best;
        }

        boolean canSail(int barge, int place) {
            return hasBarge(barge) && hasPlace(place) && obstacleFor(barge, place) == 0;
        }

        void setTarget(int barge, int place) {
            if (hasBarge(barge)) {
                barges[barge].target = place;
            }
        }

        boolean canGive(int barge, int order) {
            return hasBarge(barge) && hasOrder(order)
                && orders[order].state == OrderState.OPEN && countHeldBy(barge) < MOST_HELD_ORDERS;
        }

        void give(int barge, int order) {
            if (hasBarge(barge) && hasOrder(order)) {
                orders[order].state = OrderState.TAKEN;
                orders[order].barge = barge;
                barges[barge].enqueue(order);
            }
        }

        boolean canReopen(int order) {
            return hasOrder(order) && orders[order].isHeld();
        }

        void reopen(int order) {
            if (hasOrder(order)) {
                removeFromQueue(order);
                orders[order].open();
            }
        }

        private void removeFromQueue(int order) {
            int holder = orders[order].barge;
            if (hasBarge(holder)) {
                barges[holder].unqueue(order);
            }
        }

        boolean isInHarbor(int barge) {
            return hasBarge(barge) && barges[barge].place == HARBOR && !barges[barge].isInLock();
        }

        boolean canLoadFlour(int barge, int units) {
            return isInHarbor(barge) && barges[barge].flour + units <= MOST_FLOUR;
        }

        void loadFlour(int barge, int units) {
            if (hasBarge(barge)) {
                barges[barge].flour += units;
                coins -= units;
            }
        }

        boolean canGather(int barge) {
            return hasBarge(barge) && !barges[barge].isInLock();
        }

        void gather(int barge) {
            if (hasBarge(barge) && hasPlace(barges[barge].place)) {
                int place = barges[barge].place;
                barges[barge].dirty += used[place];
                used[place] = 0;
            }
        }

        void clean(int barge) {
            if (hasBarge(barge)) {
                barges[barge].clean += barges[barge].dirty;
                barges[barge].dirty = 0;
            }
        }

        boolean canPass(int minutes) {
            return minute + minutes <= MINUTES_IN_ALL;
        }

        void passAtMost(int minutes) {
            for (int i = 0; i < minutes && canPass(1); i++) {
                moveBarges();
                pullNoodles();
                serveOrders();
                expireOrders();
                minute++;
            }
        }

        private void moveBarges() {
            for (int i = 0; i < bargeCount; i++) {
                if (barges[i].isUnderWay()) {
                    move(i, barges[i]);
                }
            }
        }

        private void move(int number, Barge barge) {
            int next = barge.target > barge.place ? barge.place + 1 : barge.place - 1;
            int between = Math.min(barge.place, next);
            if (!hasSection(between)) {
                return;
            }
            Section section = sections[between];
            if (barge.isInLock()) {
                barge.timeLeft--;
                if (barge.timeLeft == 0) {
                    section.bargeInside = NONE;
                    barge.place = next;
                }
            } else if (section.waitingTime == 0) {
                barge.place = next;
            } else if (section.bargeInside == NONE) {
                section.bargeInside = number;
                barge.timeLeft = section.waitingTime;
            }
        }

        private void pullNoodles() {
            for (int i = 0; i < bargeCount; i++) {
                int first = barges[i].queuedAt(0);
                if (hasOrder(first)) {
                    pull(barges[i], orders[first], first);
                }
            }
        }

        private void pull(Barge barge, Order order, int number) {
            if (!order.begun && barge.flour >= order.bowls) {
                barge.flour -= order.bowls;
                order.begun = true;
            }
            if (order.begun) {
                order.pullsLeft--;
                if (order.pullsLeft == 0) {
                    order.state = OrderState.READY;
                    barge.unqueue(number);
                }
            }
        }

        // Barges share no clean pairs, so going by orders serves the same ones as going by barges.
        private void serveOrders() {
            for (int i = 0; i < orderCount; i++) {
                int holder = orders[i].barge;
                if (orders[i].state == OrderState.READY && hasBarge(holder)) {
                    serve(barges[holder], orders[i]);
                }
            }
        }

        private void serve(Barge barge, Order order) {
            int place = order.place;
            if (barge.isInLock() || barge.place != place || barge.clean < order.bowls || !hasPlace(place)) {
                return;
            }
            barge.clean -= order.bowls;
            used[place] += order.bowls;
            eatenBowlsAt[place] += order.bowls;
            eatenBowls += order.bowls;
            eaten++;
            coins += order.worth();
            order.finish(OrderState.EATEN);
        }

        private void expireOrders() {
            for (int i = 0; i < orderCount; i++) {
                if (orders[i].deadline == minute && orders[i].canStillBeEaten()) {
                    removeFromQueue(i);
                    orders[i].finish(OrderState.EXPIRED);
                    coins -= EXPIRY_LOSS;
                    expired++;
                }
            }
        }

        char signOfPlace(int place) {
            int count = countBargesAt(place);
            return count == 0 ? '.' : (char) ('0' + count);
        }

        char signOfSection(int section) {
            if (!hasSection(section) || sections[section].waitingTime == 0) {
                return '-';
            }
            return sections[section].bargeInside == NONE ? '|' : '=';
        }
    }

    /** The input buffer, its tokens one after the other, and the first error found in them. */
    private static final class TextInput {
        static final int END = 0;
        static final int INVALID = 1;
        static final int SPACE = 2;
        static final int WORD = 3;
        static final int NUMBER = 4;
        static final int SEMICOLON = 5;
        static final int OPENING = 6;
        static final int CLOSING = 7;
        // Any greater number is out of every range too; so numbers of any length fit.
        private static final int GREAT_NUMBER = 100000;

        private final byte[] bytes = new byte[INPUT_SIZE];
        int filled = 0;
        private int length = 0;
        private int kind = END;
        int start = 0;
        private int end = 0;
        int failure = 0;
        int failureOffset = NONE;

        boolean hasRoomFor(int count) {
            return filled + count <= bytes.length;
        }

        void appendInt(int four) {
            appendByte(four >>> 24);
            appendByte(four >>> 16);
            appendByte(four >>> 8);
            appendByte(four);
        }

        void appendSigns(String text) {
            for (int i = 0; i < text.length(); i++) {
                appendByte(text.charAt(i));
            }
        }

        private void appendByte(int sign) {
            if (filled < bytes.length) {
                bytes[filled] = (byte) sign;
                filled++;
            }
        }

        void empty() {
            filled = 0;
        }

        void begin(int textLength) {
            length = Math.min(textLength, bytes.length);
            end = 0;
            failure = 0;
            failureOffset = NONE;
            advance();
        }

        boolean failed() {
            return failure != 0;
        }

        void fail(int code) {
            failAt(code, start);
        }

        void failAt(int code, int offset) {
            if (failure == 0) {
                failure = code;
                failureOffset = offset;
            }
        }

        void advance() {
            start = end;
            while (start < length && kindOf(bytes[start]) == SPACE) {
                start++;
            }
            end = start;
            kind = END;
            if (start >= length) {
                return;
            }
            kind = kindOf(bytes[start]);
            end++;
            if (kind == WORD || kind == NUMBER) {
                while (end < length && kindOf(bytes[end]) == kind) {
                    end++;
                }
            }
        }

        private static int kindOf(int sign) {
            if (sign >= 'a' && sign <= 'z') {
                return WORD;
            }
            if (sign >= '0' && sign <= '9') {
                return NUMBER;
            }
            switch (sign) {
                case ' ':
                case '\n':
                    return SPACE;
                case ';':
                    return SEMICOLON;
                case '(':
                    return OPENING;
                case ')':
                    return CLOSING;
                default:
                    return INVALID;
            }
        }

        boolean isAt(int wanted) {
            return failure == 0 && kind == wanted;
        }

        boolean isAtWord(String word) {
            if (!isAt(WORD) || end - start != word.length()) {
                return false;
            }
            for (int i = 0; i < word.length() && start + i < bytes.length; i++) {
                if (bytes[start + i] != word.charAt(i)) {
                    return false;
                }
            }
            return true;
        }

        void readWord(String word) {
            if (isAtWord(word)) {
                advance();
            } else {
                fail(NOT_ALLOWED);
            }
        }

        void readToken(int wanted) {
            if (isAt(wanted)) {
                advance();
            } else {
                fail(NOT_ALLOWED);
            }
        }

        // Answers a number of the range after an error too, so that callers can go on with it.
        int readNumber(int least, int most) {
            if (!isAt(NUMBER)) {
                fail(NOT_ALLOWED);
                return least;
            }
            int value = 0;
            for (int i = start; i < end && i < bytes.length; i++) {
                value = Math.min(10 * value + bytes[i] - '0', GREAT_NUMBER);
            }
            if (value < least || value > most) {
                fail(OUT_OF_RANGE);
                return least;
            }
            advance();
            return value;
        }
    }

    private static final class CanalParser {
        static void parse(TextInput in, Canal canal) {
            in.readWord("canal");
            canal.clear(in.readNumber(LEAST_PLACES, MOST_PLACES));
            in.readToken(TextInput.SEMICOLON);
            parseSections(in, canal);
            parseBarges(in, canal);
            parseOrders(in, canal);
            in.readToken(TextInput.END);
        }

        private static void parseSections(TextInput in, Canal canal) {
            for (int i = 0; i < INPUT_SIZE; i++) {
                if (in.isAtWord("lock")) {
                    parseLock(in, canal);
                } else if (in.isAtWord("bridge")) {
                    parseBridge(in, canal);
                } else {
                    return;
                }
            }
        }

        private static void parseLock(TextInput in, Canal canal) {
            in.advance();
            int offset = in.start;
            int section = in.readNumber(0, canal.placeCount - 2);
            if (canal.hasSection(section)) {
                if (canal.sections[section].waitingTime > 0) {
                    in.failAt(HAS_IT_ALREADY, offset);
                }
                canal.sections[section].waitingTime = in.readNumber(1, MOST_WAIT);
            }
            in.readToken(TextInput.SEMICOLON);
        }

        private static void parseBridge(TextInput in, Canal canal) {
            in.advance();
            int offset = in.start;
            int section = in.readNumber(0, canal.placeCount - 2);
            if (canal.hasSection(section)) {
                if (canal.sections[section].clearance > 0) {
                    in.failAt(HAS_IT_ALREADY, offset);
                }
                canal.sections[section].clearance = in.readNumber(1, MOST_CLEARANCE);
            }
            in.readToken(TextInput.SEMICOLON);
        }

        private static void parseBarges(TextInput in, Canal canal) {
            if (!in.isAtWord("barge")) {
                in.fail(NOT_ALLOWED);
            }
            for (int i = 0; i <= MOST_BARGES && in.isAtWord("barge"); i++) {
                if (i == MOST_BARGES) {
                    in.fail(TOO_MANY);
                } else {
                    parseBarge(in, canal);
                }
            }
        }

        private static void parseBarge(TextInput in, Canal canal) {
            in.advance();
            int place = in.readNumber(0, canal.placeCount - 1);
            int height = in.readNumber(1, MOST_HEIGHT);
            int flour = in.readNumber(0, MOST_FLOUR);
            int pairs = in.readNumber(0, MOST_PAIRS);
            in.readToken(TextInput.SEMICOLON);
            canal.addBarge(place, height, flour, pairs);
        }

        private static void parseOrders(TextInput in, Canal canal) {
            for (int i = 0; i <= MOST_ORDERS && in.isAtWord("order"); i++) {
                if (i == MOST_ORDERS) {
                    in.fail(TOO_MANY);
                } else {
                    parseOrder(in, canal);
                }
            }
        }

        private static void parseOrder(TextInput in, Canal canal) {
            in.advance();
            int place = in.readNumber(0, canal.placeCount - 1);
            int bowls = in.readNumber(1, MOST_BOWLS);
            int pulls = in.readNumber(1, MOST_PULLS);
            int minutes = in.readNumber(1, MOST_ORDER_MINUTES);
            in.readToken(TextInput.SEMICOLON);
            canal.addOrder(place, bowls, pulls, minutes);
        }
    }

    private static final class Command {
        Verb verb = Verb.WAIT;
        int first = 0;
        int second = 0;
        int third = 0;
        int fourth = 0;
        // The number of the command behind this one and, for a repeat, behind all that is inside it.
        int following = 0;
    }

    /** The commands in the order of the text; those inside a repeat stand right behind it. */
    private static final class Script {
        private final Command[] commands = new Command[MOST_COMMANDS];
        private int count = 0;
        private int executed = 0;

        Script() {
            for (int i = 0; i < commands.length; i++) {
                commands[i] = new Command();
            }
        }

        void parse(TextInput in) {
            count = 0;
            parseBlock(in, TextInput.END, 0);
        }

        private void parseBlock(TextInput in, int closing, int depth) {
            for (int i = 0; i <= MOST_COMMANDS && !in.isAt(closing) && !in.failed(); i++) {
                parseCommand(in, depth);
                in.readToken(TextInput.SEMICOLON);
            }
        }

        private void parseCommand(TextInput in, int depth) {
            Verb verb = verbAt(in);
            if (verb == null) {
                in.fail(NOT_ALLOWED);
                return;
            }
            if (count >= commands.length || verb == Verb.REPEAT && depth >= MOST_NESTED_REPEATS) {
                in.fail(TOO_MANY);
                return;
            }
            in.advance();
            Command command = commands[count];
            count++;
            command.verb = verb;
            parseNumbers(in, command);
            if (verb == Verb.REPEAT) {
                in.readToken(TextInput.OPENING);
                parseBlock(in, TextInput.CLOSING, depth + 1);
                in.readToken(TextInput.CLOSING);
            }
            command.following = count;
        }

        private static Verb verbAt(TextInput in) {
            for (int i = 0; i < VERBS.length; i++) {
                if (in.isAtWord(VERBS[i].word)) {
                    return VERBS[i];
                }
            }
            return null;
        }

        private static void parseNumbers(TextInput in, Command command) {
            switch (command.verb) {
                case SAIL:
                    command.first = in.readNumber(0, MOST_BARGES - 1);
                    command.second = in.readNumber(0, MOST_PLACES - 1);
                    break;
                case ORDER:
                    command.first = in.readNumber(0, MOST_PLACES - 1);
                    command.second = in.readNumber(1, MOST_BOWLS);
                    command.third = in.readNumber(1, MOST_PULLS);
                    command.fourth = in.readNumber(1, MOST_ORDER_MINUTES);
                    break;
                case TAKE:
                    command.first = in.readNumber(0, MOST_BARGES - 1);
                    command.second = in.readNumber(0, MOST_ORDERS - 1);
                    break;
                case DROP:
                    command.first = in.readNumber(0, MOST_ORDERS - 1);
                    break;
                case FLOUR:
                    command.first = in.readNumber(0, MOST_BARGES - 1);
                    command.second = in.readNumber(1, MOST_FLOUR);
                    break;
                case COLLECT:
                case WASH:
                    command.first = in.readNumber(0, MOST_BARGES - 1);
                    break;
                case WAIT:
                    command.first = in.readNumber(1, MOST_MINUTES_AT_ONCE);
                    break;
                case REPEAT:
                    command.first = in.readNumber(LEAST_TIMES, MOST_TIMES);
                    break;
                default:
                    break;
            }
        }

        int executeOn(Canal canal) {
            executed = 0;
            executeBlock(canal, 0, count, 0);
            return executed;
        }

        // Answers whether all commands from one number to before another could be executed.
        private boolean executeBlock(Canal canal, int from, int to, int depth) {
            int next = from;
            for (int i = from; i < to && i < commands.length; i++) {
                if (i < next) {
                    continue;
                }
                Command command = commands[i];
                next = command.following;
                if (command.verb == Verb.REPEAT) {
                    if (!executeRepeat(canal, i, depth + 1)) {
                        return false;
                    }
                } else if (isPossible(canal, command)) {
                    execute(canal, command);
                    executed++;
                } else {
                    return false;
                }
            }
            return true;
        }

        private boolean executeRepeat(Canal canal, int number, int depth) {
            if (depth > MOST_NESTED_REPEATS || number < 0 || number >= commands.length) {
                return false;
            }
            Command command = commands[number];
            for (int i = 0; i < command.first; i++) {
                if (!executeBlock(canal, number + 1, command.following, depth)) {
                    return false;
                }
            }
            return true;
        }

        private static boolean isPossible(Canal canal, Command command) {
            switch (command.verb) {
                case SAIL:
                    return canal.canSail(command.first, command.second);
                case ORDER:
                    return canal.canAddOrder(command.first);
                case TAKE:
                    return canal.canGive(command.first, command.second);
                case DROP:
                    return canal.canReopen(command.first);
                case FLOUR:
                    return canal.canLoadFlour(command.first, command.second);
                case COLLECT:
                    return canal.canGather(command.first);
                case WASH:
                    return canal.isInHarbor(command.first);
                case WAIT:
                    return canal.canPass(command.first);
                default:
                    return false;
            }
        }

        private static void execute(Canal canal, Command command) {
            switch (command.verb) {
                case SAIL:
                    canal.setTarget(command.first, command.second);
                    break;
                case ORDER:
                    canal.addOrder(command.first, command.second, command.third, command.fourth);
                    break;
                case TAKE:
                    canal.give(command.first, command.second);
                    break;
                case DROP:
                    canal.reopen(command.first);
                    break;
                case FLOUR:
                    canal.loadFlour(command.first, command.second);
                    break;
                case COLLECT:
                    canal.gather(command.first);
                    break;
                case WASH:
                    canal.clean(command.first);
                    break;
                case WAIT:
                    canal.passAtMost(command.first);
                    break;
                default:
                    break;
            }
        }
    }

    /** The canals before the latest changes, in a ring whose rows are made once. */
    private static final class History {
        private final Canal[] ring = new Canal[MOST_UNDOABLE];
        private int next = 0;
        int count = 0;

        History() {
            for (int i = 0; i < ring.length; i++) {
                ring[i] = new Canal();
            }
        }

        void remember(Canal canal) {
            if (next < 0 || next >= ring.length) {
                next = 0;
            }
            ring[next].copyFrom(canal);
            next++;
            count = Math.min(count + 1, ring.length);
        }

        void takeBack(Canal canal) {
            if (count < 1) {
                return;
            }
            next = next < 1 || next > ring.length ? ring.length - 1 : next - 1;
            canal.copyFrom(ring[next]);
            count--;
        }

        void clear() {
            count = 0;
        }
    }
}
