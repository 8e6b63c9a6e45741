import java.util.function.ToIntFunction;

/** Promises 33 to 41, the description's CHANGES and what a parse leaves: each boundary that they name. */
final class ChangeBoundaries {
    private static final int INVALID = DeliveryRound.INVALID;
    private static final int ABSENT = DeliveryRound.ABSENT;
    private static final int BY_NUMBER = DeliveryRound.BY_NUMBER;
    private static final int BY_HABIT = DeliveryRound.BY_HABIT;
    private static final int FASTEST = DeliveryRound.FASTEST;
    private static final int MIN = Integer.MIN_VALUE;
    private static final int MAX = Integer.MAX_VALUE;

    private ChangeBoundaries() {
    }

    static void check() {
        carryOut();
        setSkipped();
        breakBottles();
        setOrder();
        setKeep();
        setGate();
        changes();
        undo();
        undoOfEach();
        saveSnapshot();
        restoreSnapshot();
        snapshotHolds();
        parseErrorChangesNothing();
        parseClears();
    }

    private static void due(String call, long got, long want) {
        Check.due(call, got, want);
    }

    private static void due(String call, boolean got, boolean want) {
        Check.due(call, got, want);
    }

    private static void says(int section, String words) {
        Check.says(section, words);
    }

    private static void refused(String call, ToIntFunction<DeliveryRound> act, int want) {
        Picture.unchanged(call, Stories::fullStory, act, want);
    }

    private static void carryOut() {
        says(33, "Carries out today's round.");
        says(33, CallBoundaries.CHOICES);
        String text = "nodes 4;street 0 1 9;street 0 2 5;street 0 3 5;street 1 3 1;"
                + "house 1 0 0 1 1 1 1 1 1 1;house 2 0 0 1 1 1 1 1 1 1;house 3 0 0 1 1 1 1 1 1 1;";
        int[][] houses = {{0, 1, 2}, {1, 2, 0}, {1, 2, 0}};
        for (int choice = BY_NUMBER; choice <= FASTEST; choice++) {
            DeliveryRound r = Check.round(text);
            int finish = r.previewFinish(choice);
            due("carryOut(" + choice + ")", r.carryOut(choice), 3);
            due("finish", r.finish(), finish);
            if (choice != FASTEST) {
                for (int visit = 0; visit < 3; visit++) {
                    due("visitHouse(" + visit + ")", r.visitHouse(visit), houses[choice][visit]);
                }
            }
        }
        says(33, "Then the current day increases by 1, and no house is skipped any more.");
        DeliveryRound r = Stories.town();
        r.setSkipped(0, true);
        r.setSkipped(2, true);
        due("carryOut", r.carryOut(BY_NUMBER), 1);
        due("day", r.day(), 1);
        due("demand(0)", r.demand(0), 4);
        due("setSkipped(2, false)", r.setSkipped(2, false), false);
        says(33, "Returns the number of visits;");
        due("carryOut without stops", new DeliveryRound().carryOut(FASTEST), 0);
        due("carryOut of 12 houses", Check.round(Stories.MOST).carryOut(FASTEST), 12);
        says(33, "INVALID if choice is out of range (checked first);");
        for (int choice : new int[] {-1, 3, MIN, MAX}) {
            refused("carryOut(" + choice + ")", t -> t.carryOut(choice), INVALID);
            due("carryOut(" + choice + ") of too much", Stories.tooMuch().carryOut(choice), INVALID);
        }
        says(33, "ABSENT, with nothing changed, if choice is FASTEST and there is no fastest order.");
        Picture.unchanged("carryOut(FASTEST) of too much", Stories::tooMuch, t -> t.carryOut(FASTEST), ABSENT);
        Picture.unchanged("carryOut(FASTEST) out of reach", Stories::skippedOutOfReach, t -> t.carryOut(FASTEST),
                ABSENT);
    }

    private static void setSkipped() {
        says(34, "Skips a house today, or takes that back.");
        DeliveryRound r = Stories.town();
        due("setSkipped(0, true)", r.setSkipped(0, true), true);
        due("demand(0)", r.demand(0), 0);
        due("setSkipped(0, false)", r.setSkipped(0, false), true);
        due("demand(0)", r.demand(0), 3);
        due("undo", r.undo(), 1);
        due("demand(0)", r.demand(0), 0);
        says(34, "Returns true;");
        DeliveryRound most = Check.round(Stories.MOST);
        for (int house = 0; house < 12; house++) {
            due("setSkipped(" + house + ", true)", most.setSkipped(house, true), true);
            due("totalDemand", most.totalDemand(), 9 * (11 - house));
        }
        // A house without an order today can be skipped too.
        r.setOrder(1, 0, 0);
        due("setSkipped(1, true)", r.setSkipped(1, true), true);
        says(34, "false, with nothing changed, if there is no such house or skip is as before.");
        for (int house : new int[] {-1, 3, 12, 32, 34, MIN, MAX}) {
            refused("setSkipped(" + house + ", true)", t -> t.setSkipped(house, true) ? 1 : 0, 0);
            refused("setSkipped(" + house + ", false)", t -> t.setSkipped(house, false) ? 1 : 0, 0);
        }
        refused("setSkipped(0, true)", t -> t.setSkipped(0, true) ? 1 : 0, 0);
        refused("setSkipped(1, false)", t -> t.setSkipped(1, false) ? 1 : 0, 0);
    }

    private static void breakBottles() {
        says(35, "Breaks bottles that are at a house.");
        DeliveryRound r = Stories.town();
        r.carryOut(BY_NUMBER);
        due("breakBottles(1, 1)", r.breakBottles(1, 1), 4);
        due("bottlesAt(1)", r.bottlesAt(1), 4);
        due("broken(1)", r.broken(1), 1);
        says(35, "`count`: 1 to the number of bottles at the house");
        says(35, "Returns the number of bottles that are left there;");
        due("breakBottles(1, 5)", r.breakBottles(1, 5), INVALID);
        due("breakBottles(1, 0)", r.breakBottles(1, 0), INVALID);
        due("breakBottles(1, 4)", r.breakBottles(1, 4), 0);
        due("breakBottles(1, 1)", r.breakBottles(1, 1), INVALID);
        due("broken(1)", r.broken(1), 5);
        says(35, "INVALID, with nothing changed, if there is no such house or count is out of range.");
        for (int house : new int[] {-1, 3, 12, MIN, MAX}) {
            refused("breakBottles(" + house + ", 1)", t -> t.breakBottles(house, 1), INVALID);
        }
        int bottles = Stories.fullStory().bottlesAt(0);
        for (int count : new int[] {0, -1, bottles + 1, MIN, MAX}) {
            refused("breakBottles(0, " + count + ")", t -> t.breakBottles(0, count), INVALID);
        }
        Picture.unchanged("breakBottles(0, 1) without bottles", Stories::town, t -> t.breakBottles(0, 1), INVALID);
    }

    private static void setOrder() {
        says(36, "Changes the order of a house for a weekday.");
        says(36, "`weekday`: 0 to 6");
        says(36, "`order`: 0 to 9");
        says(36, "Returns the previous order;");
        DeliveryRound r = Check.round("house 1 0 0 1 2 3 4 5 6 7;house 1 0 0 1 2 3 4 5 6 7;");
        due("setOrder(0, 0, 0)", r.setOrder(0, 0, 0), 1);
        due("setOrder(0, 0, 9)", r.setOrder(0, 0, 9), 0);
        due("setOrder(0, 6, 9)", r.setOrder(0, 6, 9), 7);
        due("setOrder(0, 6, 0)", r.setOrder(0, 6, 0), 9);
        due("order(0, 0)", r.order(0, 0), 9);
        due("order(0, 6)", r.order(0, 6), 0);
        due("order(1, 0)", r.order(1, 0), 1);
        due("order(1, 6)", r.order(1, 6), 7);
        says(36, "INVALID, with nothing changed, if there is no such house or an argument is out of range.");
        for (int house : new int[] {-1, 3, 12, MIN, MAX}) {
            refused("setOrder(" + house + ", 0, 1)", t -> t.setOrder(house, 0, 1), INVALID);
        }
        for (int weekday : new int[] {-1, 7, MIN, MAX}) {
            refused("setOrder(1, " + weekday + ", 1)", t -> t.setOrder(1, weekday, 1), INVALID);
        }
        for (int order : new int[] {-1, 10, MIN, MAX}) {
            refused("setOrder(1, 3, " + order + ")", t -> t.setOrder(1, 3, order), INVALID);
        }
        says(36, "It is a change also if the order is the same as before.");
        due("undo", r.undo(), 3);
        due("setOrder(0, 6, 9)", r.setOrder(0, 6, 9), 9);
        due("undo", r.undo(), 3);
        due("order(0, 6)", r.order(0, 6), 9);
        due("undo", r.undo(), 2);
        due("order(0, 6)", r.order(0, 6), 7);
    }

    private static void setKeep() {
        says(37, "Changes the number of bottles that a house keeps.");
        DeliveryRound r = Check.round("street 0 1 1;house 1 0 5 9 1 1 1 1 1 1;");
        r.carryOut(BY_NUMBER);
        due("setKeep(0, 8)", r.setKeep(0, 8), 5);
        r.carryOut(BY_NUMBER);
        due("visitReturned(0)", r.visitReturned(0), 1);
        says(37, "`keep`: 0 to 9");
        says(37, "Returns the previous number;");
        due("setKeep(0, 0)", r.setKeep(0, 0), 8);
        due("setKeep(0, 9)", r.setKeep(0, 9), 0);
        says(37, "INVALID, with nothing changed, if there is no such house or keep is out of range.");
        for (int house : new int[] {-1, 3, 12, MIN, MAX}) {
            refused("setKeep(" + house + ", 1)", t -> t.setKeep(house, 1), INVALID);
        }
        for (int keep : new int[] {-1, 10, MIN, MAX}) {
            refused("setKeep(1, " + keep + ")", t -> t.setKeep(1, keep), INVALID);
        }
        says(37, "It is a change also if the number is the same as before.");
        due("setKeep(0, 9)", r.setKeep(0, 9), 9);
        due("undo", r.undo(), 5);
        due("setKeep(0, 3)", r.setKeep(0, 3), 9);
    }

    private static void setGate() {
        says(38, "Gives a street a gate, in place of the one that it had, if any.");
        DeliveryRound r = Stories.town();
        due("setGate(0, 5, 6)", r.setGate(0, 5, 6), true);
        due("isOpen(0, 4)", r.isOpen(0, 4), 0);
        due("isOpen(0, 5)", r.isOpen(0, 5), 1);
        due("isOpen(0, 6)", r.isOpen(0, 6), 0);
        due("setGate(1, 5, 6)", r.setGate(1, 5, 6), true);
        due("isOpen(1, 5)", r.isOpen(1, 5), 1);
        due("isOpen(1, 320)", r.isOpen(1, 320), 0);
        says(38, "`from`: 0 to 1439");
        due("setGate(2, 0, 1440)", r.setGate(2, 0, 1440), true);
        due("isOpen(2, 0)", r.isOpen(2, 0), 1);
        due("isOpen(2, 1439)", r.isOpen(2, 1439), 1);
        due("isOpen(2, 1440)", r.isOpen(2, 1440), 0);
        says(38, "`to`: greater than from, at most 1440");
        says(38, "Returns true;");
        due("setGate(2, 1439, 1440)", r.setGate(2, 1439, 1440), true);
        due("isOpen(2, 1438)", r.isOpen(2, 1438), 0);
        due("setGate(2, 0, 1)", r.setGate(2, 0, 1), true);
        due("isOpen(2, 1)", r.isOpen(2, 1), 0);
        due("setGate(2, 0, 1), the same", r.setGate(2, 0, 1), true);
        due("undo", r.undo(), 5);
        due("isOpen(2, 0)", r.isOpen(2, 0), 1);
        says(38, "false, with nothing changed, if there is no such street or an argument is out of range.");
        for (int street : new int[] {-1, 3, 18, MIN, MAX}) {
            refused("setGate(" + street + ", 5, 6)", t -> t.setGate(street, 5, 6) ? 1 : 0, 0);
        }
        int[][] gates = {{-1, 5}, {MIN, 5}, {1440, 1441}, {1440, 1440}, {MAX, MIN}, {5, 5}, {5, 4}, {0, 0}, {0, -1},
            {0, 1441}, {0, MAX}, {5, MIN}};
        for (int[] gate : gates) {
            refused("setGate(1, " + gate[0] + ", " + gate[1] + ")", t -> t.setGate(1, gate[0], gate[1]) ? 1 : 0, 0);
        }
    }

    private static void changes() {
        says(0, "The methods from carryOut to setGate change the data if they succeed.");
        due("undo after the story's thirteen changes", Stories.fullStory().undo(), 11);
        DeliveryRound r = Stories.town();
        due("undo", r.undo(), ABSENT);
        r.carryOut(BY_NUMBER);
        r.setSkipped(0, true);
        r.breakBottles(0, 1);
        r.setOrder(0, 0, 1);
        r.setKeep(0, 1);
        r.setGate(0, 0, 1);
        due("undo", r.undo(), 5);
        // Neither a question nor a snapshot is a change.
        r.saveSnapshot(0);
        r.fastestFinish();
        due("undo", r.undo(), 4);
        says(0, "The latest 12 changes can be undone, the latest first.");
        for (int made = 0; made <= 14; made++) {
            DeliveryRound s = Stories.town();
            for (int change = 1; change <= made; change++) {
                s.setOrder(change % 3, change % 7, change % 10);
            }
            int undone = Math.min(made, 12);
            for (int left = undone - 1; left >= 0; left--) {
                due("undo after " + made + " changes", s.undo(), left);
            }
            due("undo after " + made + " changes", s.undo(), ABSENT);
        }
    }

    private static void undo() {
        says(39, "Undoes the latest change that has not been undone.");
        DeliveryRound r = Stories.town();
        r.setOrder(0, 0, 7);
        r.setOrder(0, 0, 8);
        r.setOrder(0, 0, 9);
        due("undo", r.undo(), 2);
        due("order(0, 0)", r.order(0, 0), 8);
        due("undo", r.undo(), 1);
        due("order(0, 0)", r.order(0, 0), 7);
        // A new change after an undo: the next undo is of this one, and the undone ones do not come back.
        r.setOrder(0, 0, 1);
        due("undo", r.undo(), 1);
        due("order(0, 0)", r.order(0, 0), 7);
        due("undo", r.undo(), 0);
        due("order(0, 0)", r.order(0, 0), 3);
        says(39, "Returns the number of changes that can still be undone;");
        // Round the end of the history again and again.
        for (int times = 1; times <= 40; times++) {
            r.setOrder(0, 0, times % 10);
        }
        for (int left = 11; left >= 6; left--) {
            due("undo", r.undo(), left);
            due("order(0, 0)", r.order(0, 0), (28 + left) % 10);
        }
        for (int times = 0; times < 20; times++) {
            r.setOrder(0, 1, times % 10);
        }
        for (int left = 11; left >= 0; left--) {
            due("undo", r.undo(), left);
            due("order(0, 1)", r.order(0, 1), (7 + left) % 10);
            due("order(0, 0)", r.order(0, 0), 4);
        }
        says(39, "ABSENT if there was none to undo.");
        Picture.unchanged("undo without changes", Stories::town, DeliveryRound::undo, ABSENT);
        Picture.unchanged("undo after all undos", Stories::undoneStory, DeliveryRound::undo, ABSENT);
        due("undo of a new object", new DeliveryRound().undo(), ABSENT);
    }

    /** Each kind of change, with everything that it changes, is undone as if it had not been. */
    private static void undoOfEach() {
        says(39, "Undoes the latest change that has not been undone.");
        undone("carryOut(BY_NUMBER)", r -> r.carryOut(BY_NUMBER));
        undone("carryOut(BY_HABIT)", r -> r.carryOut(BY_HABIT));
        undone("carryOut(FASTEST)", r -> r.carryOut(FASTEST));
        undone("setSkipped(0, true)", r -> r.setSkipped(0, true) ? 1 : 0);
        undone("breakBottles(0, 2)", r -> r.breakBottles(0, 2));
        undone("setOrder(1, 1, 9)", r -> r.setOrder(1, 1, 9));
        undone("setKeep(2, 9)", r -> r.setKeep(2, 9));
        undone("setGate(0, 0, 320)", r -> r.setGate(0, 0, 320) ? 1 : 0);
    }

    private static void undone(String call, ToIntFunction<DeliveryRound> act) {
        Picture.unchanged(call + " and undo", Stories::shortStory,
                r -> act.applyAsInt(r) < 0 ? INVALID : r.undo(), 2);
    }

    private static void saveSnapshot() {
        says(0, "There are two snapshot slots, 0 and 1;");
        says(40, "`slot`: 0 or 1");
        says(40, "Returns true;");
        DeliveryRound r = Stories.town();
        due("saveSnapshot(0)", r.saveSnapshot(0), true);
        r.setOrder(0, 0, 9);
        due("saveSnapshot(1)", r.saveSnapshot(1), true);
        due("restoreSnapshot(0)", r.restoreSnapshot(0), true);
        due("order(0, 0)", r.order(0, 0), 3);
        due("restoreSnapshot(1)", r.restoreSnapshot(1), true);
        due("order(0, 0)", r.order(0, 0), 9);
        says(40, "Saves a snapshot, in place of what the slot held before.");
        r.setOrder(0, 0, 5);
        due("saveSnapshot(0)", r.saveSnapshot(0), true);
        due("undo", r.undo(), 0);
        due("restoreSnapshot(0)", r.restoreSnapshot(0), true);
        due("order(0, 0)", r.order(0, 0), 5);
        due("restoreSnapshot(1)", r.restoreSnapshot(1), true);
        due("order(0, 0)", r.order(0, 0), 9);
        says(40, "false if there is no such slot.");
        for (int slot : new int[] {-1, 2, MIN, MAX}) {
            refused("saveSnapshot(" + slot + ")", t -> t.saveSnapshot(slot) ? 1 : 0, 0);
        }
    }

    private static void restoreSnapshot() {
        says(41, "Restores a snapshot and clears the undo history.");
        DeliveryRound r = Stories.fullStory();
        due("restoreSnapshot(1)", r.restoreSnapshot(1), true);
        due("undo", r.undo(), ABSENT);
        due("day", r.day(), 3);
        due("order(0, 3)", r.order(0, 3), 3);
        says(41, "The snapshot stays in its slot.");
        for (int times = 0; times < 3; times++) {
            r.carryOut(BY_NUMBER);
            r.setOrder(0, 3, 9);
            due("restoreSnapshot(1)", r.restoreSnapshot(1), true);
            due("day", r.day(), 3);
            due("order(0, 3)", r.order(0, 3), 3);
        }
        says(41, "`slot`: 0 or 1");
        says(41, "Returns true;");
        due("restoreSnapshot(0)", r.restoreSnapshot(0), true);
        due("day", r.day(), 1);
        says(41, "false, with nothing changed, if there is no such slot or it is empty.");
        for (int slot : new int[] {-1, 2, MIN, MAX}) {
            refused("restoreSnapshot(" + slot + ")", t -> t.restoreSnapshot(slot) ? 1 : 0, 0);
        }
        for (int slot = 0; slot < 2; slot++) {
            int other = slot;
            Picture.unchanged("restoreSnapshot of an empty slot", Stories::shortStory,
                    t -> t.restoreSnapshot(other) ? 1 : 0, 0);
            DeliveryRound s = Stories.town();
            s.saveSnapshot(1 - slot);
            due("restoreSnapshot of the other slot", s.restoreSnapshot(slot), false);
        }
    }

    private static void snapshotHolds() {
        says(0, "a snapshot holds the current day, orders, keeps, gates, skipped houses, all counts and the records of "
                + "the latest round.");
        // Saved, much changed and restored: only the undo history differs, so it is emptied by a restore beforehand.
        Picture.unchanged("save, change and restore", Stories::restoredStory, ChangeBoundaries::changeAndRestore, 1);
    }

    private static int changeAndRestore(DeliveryRound r) {
        r.setGate(0, 0, 1000);
        r.setGate(1, 0, 1000);
        r.setOrder(0, 3, 1);
        r.setOrder(2, 6, 9);
        r.setKeep(0, 9);
        r.setSkipped(0, false);
        r.setSkipped(1, true);
        r.breakBottles(1, 1);
        r.carryOut(BY_NUMBER);
        r.carryOut(BY_HABIT);
        r.setSkipped(2, true);
        return r.restoreSnapshot(0) ? 1 : 0;
    }

    private static void parseErrorChangesNothing() {
        says(3, "After an error everything else stays as it is.");
        String[] texts = {"nodes 2;cart 99;start 1;?", "nodes 2;house 1 9 9 9 9 9 9 9 9 10;",
            "nodes 9;price 1 1;street 0 8 1 gate 1 2;cart 9;", "street 0 1 1;street 0 1 1;",
            "house 1 0 0 1 1 1 1 1 1 1;".repeat(13)};
        for (String text : texts) {
            Picture.unchanged("parse of '" + text + "'", Stories::storyWithEmptyBuffer,
                    r -> Check.parse(r, text) < -2 ? 1 : 0, 1);
        }
        says(3, "INVALID if length is out of range, and then the buffer stays as it is;");
        for (int length : new int[] {-1, 21, MIN, MAX}) {
            refused("parse(" + length + ")", t -> t.parse(length), INVALID);
        }
    }

    private static void parseClears() {
        says(0, "A successful parse sets the current day to 0, clears all counts, habits, skips and records, clears "
                + "the undo history and empties both slots.");
        // After the parse nothing of the story is left: all is as after the parse of a new object.
        Picture.unchanged("story and parse", Stories::town, ChangeBoundaries::storyAndParse, 3);
        DeliveryRound r = Stories.fullStory();
        due("parse(8)", r.parse(8), 0);
        due("capacity", r.capacity(), 77);
        due("day", r.day(), 0);
        due("finish", r.finish(), ABSENT);
        due("undo", r.undo(), ABSENT);
        due("restoreSnapshot(0)", r.restoreSnapshot(0), false);
        due("restoreSnapshot(1)", r.restoreSnapshot(1), false);
        // Nor is anything left of a text that was read before, not even of one with an error.
        Check.parse(r, "street 0 1 9 gate 5 6;?");
        due("parse", Check.parse(r, "street 0 1 9;"), 0);
        due("isOpen(0, 0)", r.isOpen(0, 0), 1);
        due("isOpen(0, 6)", r.isOpen(0, 6), 1);
        due("arrival(0, 1, 0)", r.arrival(0, 1, 0), 9);
    }

    private static int storyAndParse(DeliveryRound r) {
        r.carryOut(BY_NUMBER);
        r.carryOut(BY_HABIT);
        r.breakBottles(0, 1);
        r.setGate(0, 5, 6);
        r.setKeep(1, 7);
        r.setOrder(2, 2, 0);
        r.setSkipped(0, true);
        r.saveSnapshot(0);
        r.saveSnapshot(1);
        r.setSkipped(1, true);
        r.fastestFinish();
        return Check.parse(r, Stories.TOWN);
    }
}
