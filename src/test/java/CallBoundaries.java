import java.util.function.IntUnaryOperator;
import java.util.function.ToIntFunction;

/** Promises 4 to 32: each boundary that they name. */
final class CallBoundaries {
    private static final int INVALID = DeliveryRound.INVALID;
    private static final int ABSENT = DeliveryRound.ABSENT;
    private static final int BY_NUMBER = DeliveryRound.BY_NUMBER;
    private static final int BY_HABIT = DeliveryRound.BY_HABIT;
    private static final int FASTEST = DeliveryRound.FASTEST;
    private static final int MIN = Integer.MIN_VALUE;
    private static final int MAX = Integer.MAX_VALUE;
    private static final String NO_HOUSE = "INVALID if there is no such house.";
    private static final String NO_VISIT = "INVALID if there is no such visit.";
    static final String CHOICES =
            "`choice`: BY_NUMBER (the stops by increasing node), BY_HABIT (the horse's order) or FASTEST";

    private CallBoundaries() {
    }

    static void check() {
        counts();
        houseNodes();
        orders();
        openStreets();
        arrivals();
        demands();
        totalsAndStops();
        habits();
        horseStops();
        fastestFinishes();
        fastestStops();
        previews();
        questionsChangeNothing();
        bottlesOfHouses();
        bills();
        bottlesOut();
        recordsAtFirst();
        visitRecords();
        reloads();
    }

    private static void due(String call, long got, long want) {
        Check.due(call, got, want);
    }

    private static void due(String call, boolean got, boolean want) {
        Check.due(call, got, want);
    }

    private static void says(int section, String words) {
        Check.says(section, words);
    }

    private static void refused(String call, ToIntFunction<DeliveryRound> act, int want) {
        Picture.unchanged(call, Stories::fullStory, act, want);
    }

    /** A question about a house, at both ends of the houses' numbers and beyond them. */
    private static void askHouses(String call, IntUnaryOperator ask, DeliveryRound r) {
        int count = r.houseCount();
        for (int house : new int[] {-1, count, count + 1, 12, 31, 32, 64, MIN, MAX}) {
            if (house < 0 || house >= count) {
                due(call + "(" + house + ") of " + count + " houses", ask.applyAsInt(house), INVALID);
            }
        }
        if (count > 0) {
            due(call + "(0) of " + count + " houses", ask.applyAsInt(0) >= 0, true);
            due(call + "(" + (count - 1) + ")", ask.applyAsInt(count - 1) >= 0, true);
        }
    }

    private static void counts() {
        DeliveryRound none = new DeliveryRound();
        DeliveryRound most = Check.round(Stories.MOST);
        says(4, "Returns the number of nodes.");
        due("nodeCount", none.nodeCount(), 2);
        due("nodeCount", most.nodeCount(), 10);
        says(5, "Returns the number of streets.");
        due("streetCount", none.streetCount(), 0);
        due("streetCount", most.streetCount(), 18);
        says(6, "Returns the number of houses.");
        due("houseCount", none.houseCount(), 0);
        due("houseCount", most.houseCount(), 12);
        says(7, "Returns the capacity of the cart.");
        due("capacity", none.capacity(), 60);
        due("capacity", Check.round("cart 10;").capacity(), 10);
        due("capacity", most.capacity(), 200);
        says(8, "Returns the current day.");
        due("day", none.day(), 0);
        none.carryOut(BY_NUMBER);
        due("day", none.day(), 1);
        none.undo();
        due("day", none.day(), 0);
        for (int day = 1; day <= 100; day++) {
            most.carryOut(BY_NUMBER);
        }
        due("day", most.day(), 100);
    }

    private static void houseNodes() {
        says(9, "Returns the node of a house;");
        DeliveryRound r = Check.round(Stories.MOST);
        due("houseNode(0)", r.houseNode(0), 1);
        due("houseNode(10)", r.houseNode(10), 1);
        due("houseNode(11)", r.houseNode(11), 9);
        says(9, NO_HOUSE);
        for (DeliveryRound t : Stories.towns()) {
            askHouses("houseNode", t::houseNode, t);
        }
    }

    private static void orders() {
        says(10, "`weekday`: 0 to 6");
        DeliveryRound r = Check.round("house 1 0 0 1 2 3 4 5 6 7;house 1 0 0 0 9 0 9 0 9 0;");
        due("order(0, 0)", r.order(0, 0), 1);
        due("order(0, 6)", r.order(0, 6), 7);
        due("order(1, 0)", r.order(1, 0), 0);
        due("order(1, 6)", r.order(1, 6), 0);
        says(10, "Returns the order of a house for a weekday as it is now;");
        r.setOrder(0, 6, 0);
        due("order(0, 6)", r.order(0, 6), 0);
        r.setSkipped(0, true);
        due("order(0, 0) of a house that is skipped", r.order(0, 0), 1);
        r.carryOut(BY_NUMBER);
        due("order(0, 0) on the next day", r.order(0, 0), 1);
        says(10, "INVALID if there is no such house or weekday.");
        for (int weekday : new int[] {-1, 7, 8, MIN, MAX}) {
            due("order(0, " + weekday + ")", r.order(0, weekday), INVALID);
            due("order(1, " + weekday + ")", r.order(1, weekday), INVALID);
        }
        for (DeliveryRound t : Stories.towns()) {
            askHouses("order", house -> t.order(house, 0), t);
            askHouses("order", house -> t.order(house, 6), t);
        }
    }

    private static void openStreets() {
        says(11, "`minute`: 0 or greater");
        DeliveryRound r = Stories.town();
        due("isOpen(0, 0)", r.isOpen(0, 0), 1);
        due("isOpen(1, 0)", r.isOpen(1, 0), 0);
        due("isOpen(0, MAX)", r.isOpen(0, MAX), 1);
        due("isOpen(1, MAX)", r.isOpen(1, MAX), 0);
        says(11, "Returns 1 if a street can be entered at that minute, 0 if not;");
        int[] minutes = {319, 320, 399, 400};
        int[] open = {0, 1, 1, 0};
        for (int k = 0; k < 4; k++) {
            due("isOpen(1, " + minutes[k] + ")", r.isOpen(1, minutes[k]), open[k]);
        }
        says(11, "INVALID if there is no such street or minute is negative.");
        for (int street : new int[] {-1, 3, 4, 18, MIN, MAX}) {
            due("isOpen(" + street + ", 5)", r.isOpen(street, 5), INVALID);
            due("isOpen(" + street + ", -1)", r.isOpen(street, -1), INVALID);
        }
        due("isOpen(0, -1)", r.isOpen(0, -1), INVALID);
        due("isOpen(1, MIN)", r.isOpen(1, MIN), INVALID);
        DeliveryRound most = Check.round(Stories.MOST);
        due("isOpen(17, 5)", most.isOpen(17, 5), 1);
        due("isOpen(18, 5)", most.isOpen(18, 5), INVALID);
        due("isOpen(0, 5) without streets", new DeliveryRound().isOpen(0, 5), INVALID);
    }

    private static void arrivals() {
        says(12, "`from`: the node from which one leaves");
        says(12, "`to`: the node to which one goes");
        DeliveryRound r = Check.round("nodes 3;street 0 1 5 gate 7 9;street 1 2 3;");
        due("arrival(0, 2, 0)", r.arrival(0, 2, 0), 15);
        due("arrival(2, 0, 0)", r.arrival(2, 0, 0), 12);
        says(12, "`minute`: 0 to 9999");
        due("arrival(1, 2, 0)", r.arrival(1, 2, 0), 3);
        due("arrival(1, 2, 9999)", r.arrival(1, 2, 9999), 10002);
        due("arrival(1, 1, 9999)", r.arrival(1, 1, 9999), 9999);
        says(12, "Returns the earliest arrival, leaving at that minute or later;");
        due("arrival(0, 1, 8)", r.arrival(0, 1, 8), 13);
        due("arrival(0, 1, 6)", r.arrival(0, 1, 6), 12);
        says(12, "INVALID if there is no such node or minute is out of range (checked first);");
        for (int minute : new int[] {-1, 10000, MIN, MAX}) {
            due("arrival(1, 2, " + minute + ")", r.arrival(1, 2, minute), INVALID);
            due("arrival(1, 1, " + minute + ")", r.arrival(1, 1, minute), INVALID);
            due("arrival(0, 1, " + minute + ")", r.arrival(0, 1, minute), INVALID);
        }
        for (int node : new int[] {-1, 3, 9, 10, MIN, MAX}) {
            due("arrival(" + node + ", 0, 5)", r.arrival(node, 0, 5), INVALID);
            due("arrival(0, " + node + ", 5)", r.arrival(0, node, 5), INVALID);
            due("arrival(" + node + ", " + node + ", 5)", r.arrival(node, node, 5), INVALID);
        }
        says(12, "ABSENT if there is none.");
        due("arrival(0, 1, 9)", r.arrival(0, 1, 9), ABSENT);
        due("arrival(2, 0, 6)", r.arrival(2, 0, 6), ABSENT);
        due("arrival(2, 0, 5)", r.arrival(2, 0, 5), 13);
    }

    private static void demands() {
        says(13, "Returns the demand of a house today;");
        DeliveryRound r = Check.round("street 0 1 1;house 1 0 0 9 0 1 1 1 1 1;");
        due("demand(0)", r.demand(0), 9);
        r.carryOut(BY_NUMBER);
        due("demand(0)", r.demand(0), 0);
        says(13, NO_HOUSE);
        for (DeliveryRound t : Stories.towns()) {
            askHouses("demand", t::demand, t);
        }
    }

    private static void totalsAndStops() {
        says(14, "Returns the total demand of today.");
        due("totalDemand", new DeliveryRound().totalDemand(), 0);
        due("totalDemand", Check.round(Stories.MOST).totalDemand(), 108);
        says(15, "Returns the stops of today as a bit set (bit k for node k).");
        due("stops", new DeliveryRound().stops(), 0);
        due("stops", Check.round("house 1 0 0 1 1 1 1 1 1 1;").stops(), 2);
        due("stops", Check.round(Stories.MOST).stops(), 514);
        StringBuilder all = new StringBuilder("nodes 10;");
        for (int node = 1; node < 10; node++) {
            all.append("house ").append(node).append(" 0 0 1 1 1 1 1 1 1;");
        }
        due("stops", Check.round(all.toString()).stops(), 1022);
    }

    private static void habits() {
        says(16, "`from`: a node");
        says(16, "`to`: a node");
        says(16, "Returns the habit of the pair;");
        DeliveryRound r = Check.round(Stories.MOST);
        for (int round = 1; round <= 20; round++) {
            r.carryOut(BY_NUMBER);
            due("habit(0, 1)", r.habit(0, 1), round);
            due("habit(1, 9)", r.habit(1, 9), round);
            due("habit(9, 0)", r.habit(9, 0), round);
        }
        due("habit(9, 9)", r.habit(9, 9), 0);
        due("habit(0, 0)", r.habit(0, 0), 0);
        says(16, "INVALID if there is no such node.");
        for (DeliveryRound t : Stories.towns()) {
            for (int node : new int[] {-1, t.nodeCount(), 10, 11, MIN, MAX}) {
                due("habit(" + node + ", 0)", t.habit(node, 0), INVALID);
                due("habit(0, " + node + ")", t.habit(0, node), INVALID);
                due("habit(" + node + ", " + node + ")", t.habit(node, node), INVALID);
            }
        }
    }

    private static void horseStops() {
        says(17, "`position`: 0 or greater");
        says(17, "Returns the stop at a position of the horse's order of today;");
        DeliveryRound r = Stories.town();
        due("horseStop(0)", r.horseStop(0), 1);
        due("horseStop(1)", r.horseStop(1), 2);
        says(17, "INVALID if position is negative;");
        due("horseStop(-1)", r.horseStop(-1), INVALID);
        due("horseStop(MIN)", r.horseStop(MIN), INVALID);
        due("horseStop(-1) without stops", new DeliveryRound().horseStop(-1), INVALID);
        says(17, "ABSENT if there are not so many stops.");
        for (int position : new int[] {2, 3, 9, 10, 11, 32, MAX}) {
            due("horseStop(" + position + ")", r.horseStop(position), ABSENT);
        }
        due("horseStop(0) without stops", new DeliveryRound().horseStop(0), ABSENT);
        r.setSkipped(1, true);
        due("horseStop(1)", r.horseStop(1), ABSENT);
    }

    private static void fastestFinishes() {
        says(18, "Returns the minute at which the round of the fastest order of today is finished.");
        DeliveryRound r = Stories.town();
        due("fastestFinish", r.fastestFinish(), 341);
        due("carryOut", r.carryOut(FASTEST), 3);
        due("finish", r.finish(), 341);
        says(18, "Returns the minute (the start minute if there are no stops);");
        due("fastestFinish", new DeliveryRound().fastestFinish(), 300);
        due("fastestFinish", Check.round("start 0;").fastestFinish(), 0);
        due("fastestFinish", Check.round("start 1439;house 1 0 0 0 0 0 0 0 0 0;").fastestFinish(), 1439);
        DeliveryRound s = Stories.outOfReach();
        s.setSkipped(0, true);
        s.setSkipped(1, true);
        due("fastestFinish with all skipped", s.fastestFinish(), 300);
        says(18, "ABSENT if the fastest order is not defined or no order is possible.");
        due("fastestFinish", Stories.tooMuch().fastestFinish(), ABSENT);
        due("fastestFinish", Stories.outOfReach().fastestFinish(), ABSENT);
        due("fastestFinish", Check.round("street 0 1 5 gate 0 306;house 1 0 0 1 1 1 1 1 1 1;").fastestFinish(), ABSENT);
        due("fastestFinish", Check.round("street 0 1 5 gate 0 307;house 1 0 0 1 1 1 1 1 1 1;").fastestFinish(), 311);
    }

    private static void fastestStops() {
        says(19, "`position`: 0 or greater");
        says(19, "Returns the stop at a position of the fastest order of today;");
        DeliveryRound r = Stories.town();
        due("fastestStop(0)", r.fastestStop(0), 1);
        due("fastestStop(1)", r.fastestStop(1), 2);
        says(19, "INVALID if position is negative (checked first);");
        for (DeliveryRound t : new DeliveryRound[] {r, Stories.tooMuch(), Stories.outOfReach(), new DeliveryRound()}) {
            due("fastestStop(-1)", t.fastestStop(-1), INVALID);
            due("fastestStop(MIN)", t.fastestStop(MIN), INVALID);
        }
        says(19, "ABSENT if there is no such order or it has not so many stops.");
        for (int position : new int[] {2, 3, 9, 10, MAX}) {
            due("fastestStop(" + position + ")", r.fastestStop(position), ABSENT);
        }
        due("fastestStop(0) of too much", Stories.tooMuch().fastestStop(0), ABSENT);
        due("fastestStop(0) out of reach", Stories.outOfReach().fastestStop(0), ABSENT);
        due("fastestStop(0) without stops", new DeliveryRound().fastestStop(0), ABSENT);
    }

    private static void previews() {
        says(20, CHOICES);
        DeliveryRound r = Check.round("nodes 4;street 0 1 9;street 0 2 5;street 0 3 5;street 1 3 1;"
                + "house 1 0 0 1 1 1 1 1 1 1;house 2 0 0 1 1 1 1 1 1 1;house 3 0 0 1 1 1 1 1 1 1;");
        // By number 306, 307, 318, 319, 329, 330, 335; the horse 2 3 1: 305, 306, 316, 317, 318, 319, 325.
        due("previewFinish(BY_NUMBER)", r.previewFinish(BY_NUMBER), 335);
        due("previewFinish(BY_HABIT)", r.previewFinish(BY_HABIT), 325);
        due("previewFinish(FASTEST)", r.previewFinish(FASTEST), 325);
        says(20, "Returns the minute;");
        due("previewFinish without stops", new DeliveryRound().previewFinish(BY_HABIT), 300);
        says(20, "INVALID if choice is out of range;");
        for (int choice : new int[] {-1, 3, MIN, MAX}) {
            due("previewFinish(" + choice + ")", r.previewFinish(choice), INVALID);
            due("previewFinish(" + choice + ") of too much", Stories.tooMuch().previewFinish(choice), INVALID);
        }
        says(20, "ABSENT if the round would be stranded, or if choice is FASTEST and there is no fastest order.");
        DeliveryRound stranded = Check.round("street 0 1 5 gate 0 306;house 1 0 0 1 1 1 1 1 1 1;");
        due("previewFinish(BY_NUMBER)", stranded.previewFinish(BY_NUMBER), ABSENT);
        due("previewFinish(BY_HABIT)", stranded.previewFinish(BY_HABIT), ABSENT);
        due("previewFinish(FASTEST)", stranded.previewFinish(FASTEST), ABSENT);
        due("previewFinish(BY_NUMBER) of too much", Stories.tooMuch().previewFinish(BY_NUMBER), 332);
        due("previewFinish(FASTEST) of too much", Stories.tooMuch().previewFinish(FASTEST), ABSENT);
        due("previewFinish(BY_HABIT) out of reach", Stories.outOfReach().previewFinish(BY_HABIT), 311);
        due("previewFinish(FASTEST) out of reach", Stories.outOfReach().previewFinish(FASTEST), ABSENT);
    }

    private static void questionsChangeNothing() {
        says(20, "Returns the minute at which today's round would be finished, without carrying it out.");
        DeliveryRound r = Stories.fullStory();
        for (int choice = BY_NUMBER; choice <= FASTEST; choice++) {
            int way = choice;
            refused("previewFinish(" + choice + ")", t -> t.previewFinish(way), r.previewFinish(way));
        }
        refused("horseStop(1)", t -> t.horseStop(1), r.horseStop(1));
        refused("fastestStop(1)", t -> t.fastestStop(1), r.fastestStop(1));
        refused("arrival(2, 0, 301)", t -> t.arrival(2, 0, 301), r.arrival(2, 0, 301));
    }

    private static void bottlesOfHouses() {
        DeliveryRound r = Check.round("street 0 1 1;house 1 0 0 9 1 1 1 1 1 1;house 1 0 0 0 0 0 0 0 0 0;");
        r.carryOut(BY_NUMBER);
        r.carryOut(BY_NUMBER);
        r.breakBottles(0, 1);
        says(21, "Returns the number of bottles at a house;");
        due("bottlesAt(0)", r.bottlesAt(0), 0);
        due("bottlesAt(1)", r.bottlesAt(1), 0);
        says(22, "Returns the number of bottles delivered to a house in all rounds;");
        due("delivered(0)", r.delivered(0), 10);
        due("delivered(1)", r.delivered(1), 0);
        says(23, "Returns the number of bottles taken back from a house in all rounds;");
        due("returned(0)", r.returned(0), 9);
        due("returned(1)", r.returned(1), 0);
        says(24, "Returns the number of bottles that a house has broken;");
        due("broken(0)", r.broken(0), 1);
        due("broken(1)", r.broken(1), 0);
        for (DeliveryRound t : Stories.towns()) {
            says(21, NO_HOUSE);
            askHouses("bottlesAt", t::bottlesAt, t);
            says(22, NO_HOUSE);
            askHouses("delivered", t::delivered, t);
            says(23, NO_HOUSE);
            askHouses("returned", t::returned, t);
            says(24, NO_HOUSE);
            askHouses("broken", t::broken, t);
            says(25, NO_HOUSE);
            askHouses("bill", t::bill, t);
        }
    }

    private static void bills() {
        says(25, "Returns the bill of a house: the bottles delivered times the price, plus the broken bottles times "
                + "the deposit;");
        DeliveryRound r = Check.round("price 99 99;street 0 1 1;house 1 0 0 9 9 9 9 9 9 9;");
        due("bill(0) at first", r.bill(0), 0);
        for (int round = 1; round <= 100; round++) {
            r.carryOut(BY_NUMBER);
        }
        due("bill(0)", r.bill(0), 900 * 99);
        r.breakBottles(0, 9);
        due("bill(0)", r.bill(0), 909 * 99);
        r.undo();
        due("bill(0)", r.bill(0), 900 * 99);
    }

    private static void bottlesOut() {
        says(26, "Returns the sum of the bottles at all houses.");
        due("bottlesOut without houses", new DeliveryRound().bottlesOut(), 0);
        DeliveryRound r = Check.round(Stories.MOST);
        due("bottlesOut at first", r.bottlesOut(), 0);
        r.carryOut(FASTEST);
        due("bottlesOut", r.bottlesOut(), 108);
        r.breakBottles(11, 9);
        due("bottlesOut", r.bottlesOut(), 99);
    }

    private static void recordsAtFirst() {
        for (DeliveryRound r : new DeliveryRound[] {new DeliveryRound(), Stories.town()}) {
            r.previewFinish(BY_NUMBER);
            says(27, "ABSENT if it was stranded or no round has been carried out.");
            due("finish", r.finish(), ABSENT);
            says(28, "Returns the number of visits of the latest round, 0 if no round has been carried out.");
            due("visitCount", r.visitCount(), 0);
            says(32, "Returns the number of reloads of the latest round, 0 if no round has been carried out.");
            due("reloads", r.reloads(), 0);
            says(29, NO_VISIT);
            due("visitHouse(0)", r.visitHouse(0), INVALID);
            says(30, NO_VISIT);
            due("visitMinute(0)", r.visitMinute(0), INVALID);
            says(31, NO_VISIT);
            due("visitReturned(0)", r.visitReturned(0), INVALID);
        }
    }

    private static void visitRecords() {
        DeliveryRound r = Stories.town();
        r.carryOut(BY_NUMBER);
        r.carryOut(BY_NUMBER);
        r.carryOut(BY_NUMBER);
        says(27, "Returns the minute at which the latest round was finished;");
        due("finish", r.finish(), 341);
        askVisits(r, new int[] {0, 2, 1}, new int[] {315, 318, 326}, new int[] {4, 1, 5});
        // The next day has two visits; the third record is gone.
        r.setOrder(1, 3, 0);
        r.carryOut(BY_NUMBER);
        askVisits(r, new int[] {0, 2}, new int[] {315, 318}, new int[] {3, 2});
        DeliveryRound most = Check.round(Stories.MOST);
        most.carryOut(BY_NUMBER);
        askVisits(most, new int[] {0, 1, 2, 3, 4, 5, 6, 7, 8, 9, 10, 11},
                new int[] {302, 303, 304, 305, 306, 307, 308, 309, 310, 311, 312, 314}, new int[12]);
        says(27, "ABSENT if it was stranded");
        r.setGate(0, 0, 315);
        r.setGate(1, 0, 315);
        due("carryOut", r.carryOut(BY_NUMBER), 2);
        due("finish", r.finish(), ABSENT);
    }

    /** Houses, minutes and bottles of all visits; each row has one place a visit. */
    private static void askVisits(DeliveryRound r, int[] houses, int[] minutes, int[] bottles) {
        int count = houses.length;
        int[] none = {-1, count, count + 1, 12, 13, MIN, MAX};
        says(28, "Returns the number of visits of the latest round,");
        due("visitCount", r.visitCount(), count);
        says(29, "Returns the house of a visit of the latest round, visits being numbered from 0 in their order;");
        for (int visit = 0; visit < count; visit++) {
            due("visitHouse(" + visit + ")", r.visitHouse(visit), houses[visit]);
        }
        says(29, NO_VISIT);
        for (int visit : none) {
            due("visitHouse(" + visit + ")", r.visitHouse(visit), INVALID);
        }
        says(30, "Returns the minute at which a visit of the latest round ended;");
        for (int visit = 0; visit < count; visit++) {
            due("visitMinute(" + visit + ")", r.visitMinute(visit), minutes[visit]);
        }
        says(30, NO_VISIT);
        for (int visit : none) {
            due("visitMinute(" + visit + ")", r.visitMinute(visit), INVALID);
        }
        says(31, "Returns the number of bottles taken back in a visit of the latest round;");
        for (int visit = 0; visit < count; visit++) {
            due("visitReturned(" + visit + ")", r.visitReturned(visit), bottles[visit]);
        }
        says(31, NO_VISIT);
        for (int visit : none) {
            due("visitReturned(" + visit + ")", r.visitReturned(visit), INVALID);
        }
    }

    private static void reloads() {
        says(32, "Returns the number of reloads of the latest round,");
        DeliveryRound r = Stories.tooMuch();
        r.carryOut(BY_NUMBER);
        due("reloads", r.reloads(), 1);
        r.setSkipped(0, true);
        r.carryOut(BY_NUMBER);
        due("reloads", r.reloads(), 0);
        r.undo();
        due("reloads", r.reloads(), 1);
    }
}
