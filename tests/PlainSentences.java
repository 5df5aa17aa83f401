import java.util.Set;

/** Sentences of the document that name no boundary case: headings, parameters, and what a method is for. */
final class PlainSentences {
    private static final String PARAMETER = "- `\\w+`: (number of an? \\w+|the number of bytes to parse|index of the byte)";
    private static final String HEADING = "(The canal|Barges|Orders|Text input|Changes)\\.|The grammar of a script:|Ahead of the calls .* the interface says: ---- [a-z ]+\\.";

    private static final Set<String> OF_TERMS = Set.of(
        "A model of barges with kitchens on a canal.",
        "Barges sail through locks and under bridges, pull noodles for orders, and serve them at the places where they were ordered; "
            + "bowls need flour, eating needs chopsticks, and every order has a deadline.",
        "A text consists of tokens.");

    /** Behind each of them the promise goes on with what it returns and throws, which is tested. */
    private static final Set<String> OF_PROMISES = Set.of(
        "6 Returns the number of the present minute.",
        "7 Returns the number of places.",
        "8 Returns the waiting time of the lock of a section.",
        "9 Returns the clearance of the bridge of a section.",
        "10 Returns the barge in the lock of a section.",
        "11 Returns the used pairs of chopsticks at a place.",
        "12 Counts the barges at a place.",
        "13 Counts the orders of a place that can still be eaten.",
        "14 Returns the number of barges.",
        "15 Returns the place of a barge.",
        "16 Returns the target of a barge.",
        "17 Returns the height of a barge.",
        "18 Returns the remaining time of a barge in a lock.",
        "19 Returns the flour of a barge.",
        "20 Returns the clean pairs of chopsticks of a barge.",
        "21 Returns the dirty pairs of chopsticks of a barge.",
        "22 Returns the length of the queue of a barge.",
        "23 Returns an order of the queue of a barge.",
        "24 Returns the number of ready orders of a barge.",
        "25 Returns the flour that the queue of a barge still needs.",
        "26 Returns the number of orders.",
        "27 Returns the place of an order.",
        "28 Returns the number of bowls of an order.",
        "29 Returns the number of pulls that are left for an order.",
        "30 Returns the deadline of an order.",
        "31 Returns the price of an order.",
        "32 Returns the barge to which an order belongs.",
        "33 Tells whether an order is open.",
        "34 Tells whether an order is ready.",
        "35 Tells whether an order is eaten.",
        "36 Finds the most urgent open order.",
        "37 Returns the coins.",
        "38 Returns the number of bowls that were eaten.",
        "39 Returns the number of expired orders.",
        "40 Returns the mean number of clean pairs of chopsticks of the barges.",
        "41 Returns the fraction of finished orders that were eaten.",
        "42 Checks the accounts.",
        "43 Tells why a barge cannot sail to a place.",
        "44 Returns the time of a journey without other barges.",
        "45 Returns the number of minutes until a barge is at its target, if nothing but minutes happens.",
        "46 Tells whether an order will be eaten, if nothing but minutes happens.",
        "47 Returns the coins after some minutes, if nothing but minutes happens.",
        "48 Finds the nearest barge for an order.",
        "49 A barge gets a new target.",
        "50 An order is made.",
        "53 A barge in the harbor buys flour.",
        "56 Some minutes pass.",
        "59 Returns a byte of the output.",
        "60 Returns the number of changes that can be undone.");

    private PlainSentences() {
    }

    static boolean has(int promise, String sentence) {
        if (promise == Document.TERMS) return OF_TERMS.contains(sentence) || sentence.matches(HEADING);
        return OF_PROMISES.contains(promise + " " + sentence) || sentence.matches(PARAMETER);
    }
}
