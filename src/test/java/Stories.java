/** Towns and what has happened in them, for tests that make the same object more than once. */
final class Stories {
    private static final int BY_NUMBER = DeliveryRound.BY_NUMBER;
    private static final int BY_HABIT = DeliveryRound.BY_HABIT;
    private static final int FASTEST = DeliveryRound.FASTEST;
    /** Two houses at node 1, one at node 2; a gate between 1 and 2. */
    static final String TOWN = "nodes 3;cart 20;start 300;price 7 3;"
            + "street 0 1 10;street 1 2 5 gate 320 400;street 2 0 30;"
            + "house 1 2 1 3 4 3 3 3 3 3;house 2 0 0 5 0 5 5 5 5 5;house 1 1 0 2 1 2 2 2 2 2;";
    static final String MOST = most();

    private Stories() {
    }

    /** Ten nodes, eighteen streets and twelve houses, all at node 1 but one. */
    private static String most() {
        StringBuilder text = new StringBuilder("nodes 10;cart 200;");
        for (int node = 1; node < 10; node++) {
            text.append("street 0 ").append(node).append(" 1;street ").append(node).append(' ').append(node % 9 + 1)
                    .append(" 1;");
        }
        text.append("house 1 0 0 9 9 9 9 9 9 9;".repeat(11)).append("house 9 0 0 9 9 9 9 9 9 9;");
        return text.toString();
    }

    static DeliveryRound town() {
        return Check.round(TOWN);
    }

    /** Thirteen changes, so that the undo history is full; both slots are filled, and twenty bytes wait. */
    static DeliveryRound fullStory() {
        DeliveryRound r = town();
        r.setOrder(0, 4, 9);
        r.carryOut(BY_NUMBER);
        r.saveSnapshot(0);
        r.setKeep(0, 2);
        r.setOrder(1, 1, 4);
        r.carryOut(BY_HABIT);
        r.breakBottles(1, 1);
        r.setGate(0, 10, 900);
        r.setSkipped(2, true);
        r.carryOut(FASTEST);
        r.saveSnapshot(1);
        r.setOrder(0, 3, 7);
        r.setKeep(2, 3);
        r.setSkipped(0, true);
        r.setGate(2, 100, 1000);
        Check.feed(r, "cart 77;street 0 1 9");
        return r;
    }

    static DeliveryRound[] towns() {
        return new DeliveryRound[] {new DeliveryRound(), town(), fullStory(), Check.round(MOST)};
    }

    /** Two stops; one of them is out of reach. */
    static DeliveryRound outOfReach() {
        return Check.round("nodes 3;street 0 1 5;house 1 0 0 1 1 1 1 1 1 1;house 2 0 0 1 1 1 1 1 1 1;");
    }

    /** One stop with a demand of one more than the capacity. */
    static DeliveryRound tooMuch() {
        return Check.round("cart 10;street 0 1 5;house 1 0 0 9 9 9 9 9 9 9;house 1 0 0 2 2 2 2 2 2 2;");
    }

    /** A day is done, a house is skipped, and the other one is out of reach. */
    static DeliveryRound skippedOutOfReach() {
        DeliveryRound r = outOfReach();
        r.saveSnapshot(0);
        r.carryOut(BY_NUMBER);
        r.setSkipped(0, true);
        return r;
    }

    static DeliveryRound undoneStory() {
        DeliveryRound r = fullStory();
        for (int times = 0; times < 12; times++) {
            r.undo();
        }
        return r;
    }

    static DeliveryRound shortStory() {
        DeliveryRound r = town();
        r.carryOut(BY_NUMBER);
        r.setSkipped(2, true);
        return r;
    }

    static DeliveryRound restoredStory() {
        DeliveryRound r = fullStory();
        r.saveSnapshot(0);
        r.restoreSnapshot(0);
        return r;
    }

    static DeliveryRound storyWithEmptyBuffer() {
        DeliveryRound r = fullStory();
        // The street's statement is cut off, so this is an error that empties the buffer.
        r.parse(20);
        return r;
    }
}
