/** Time, network, houses, rounds, habits and orders: each boundary that the description names. */
final class RoundBoundaries {
    private static final int INVALID = DeliveryRound.INVALID;
    private static final int ABSENT = DeliveryRound.ABSENT;
    private static final int BY_NUMBER = DeliveryRound.BY_NUMBER;
    private static final int BY_HABIT = DeliveryRound.BY_HABIT;
    private static final int FASTEST = DeliveryRound.FASTEST;
    private static final int MAX = Integer.MAX_VALUE;

    private RoundBoundaries() {
    }

    static void check() {
        minutes();
        days();
        nodesAndStreets();
        gates();
        earliestArrivals();
        demands();
        stops();
        roundWithoutStops();
        firstLoad();
        stopsLeftOut();
        housesOfAStop();
        reloads();
        loadOfAReload();
        roundEndsAtOnce();
        visits();
        bottlesTakenBack();
        roomInTheCart();
        endOfARound();
        leftOutAsSoonAs();
        fullBottlesLeft();
        habits();
        habitsWithoutVisits();
        horse();
        fastestIsDefined();
        fastestIsPossible();
        fastestOrder();
        fastestAmongEquals();
        constants();
    }

    private static void due(String call, long got, long want) {
        Check.due(call, got, want);
    }

    private static void says(String words) {
        Check.says(0, words);
    }

    /** A house of that node with the same order every day, without a walk. */
    private static String house(int node, int keep, int order) {
        return "house " + node + " 0 " + keep + (" " + order).repeat(7) + ";";
    }

    private static void minutes() {
        says("Minutes of a day are numbered from 0;");
        DeliveryRound r = Check.round("start 0;street 0 1 1 gate 0 1;" + house(1, 0, 1));
        due("isOpen(0, 0)", r.isOpen(0, 0), 1);
        due("isOpen(0, -1)", r.isOpen(0, -1), INVALID);
        due("arrival(0, 1, 0)", r.arrival(0, 1, 0), 1);
        due("arrival(0, 1, -1)", r.arrival(0, 1, -1), INVALID);
        due("carryOut", r.carryOut(BY_NUMBER), 1);
        due("visitMinute(0)", r.visitMinute(0), 2);
        says("a round may last beyond minute 1439.");
        DeliveryRound s = Check.round("start 1439;street 0 1 99;house 1 50 0 1 1 1 1 1 1 1;");
        due("previewFinish", s.previewFinish(BY_NUMBER), 1738);
        due("fastestFinish", s.fastestFinish(), 1738);
        due("carryOut", s.carryOut(FASTEST), 1);
        due("visitMinute(0)", s.visitMinute(0), 1639);
        due("finish", s.finish(), 1738);
        due("day", s.day(), 1);
    }

    private static void days() {
        says("Days are numbered from 0;");
        says("The current day is 0 at first.");
        due("day", new DeliveryRound().day(), 0);
        DeliveryRound r = Check.round("street 0 1 1;house 1 0 0 1 2 3 4 5 6 7;");
        due("day", r.day(), 0);
        says("the weekday of a day is the day modulo 7.");
        for (int day = 0; day < 22; day++) {
            due("day", r.day(), day);
            due("demand on day " + day, r.demand(0), day % 7 + 1);
            r.carryOut(BY_NUMBER);
        }
        // Back over the end of a week: from day 22 to day 20.
        r.undo();
        r.undo();
        due("day", r.day(), 20);
        due("demand", r.demand(0), 7);
        r.carryOut(BY_NUMBER);
        due("demand", r.demand(0), 1);
    }

    private static void nodesAndStreets() {
        says("The nodes are numbered from 0;");
        DeliveryRound r = Check.round("nodes 10;street 0 9 99;street 9 8 1;");
        due("arrival(0, 9, 0)", r.arrival(0, 9, 0), 99);
        due("arrival(0, 10, 0)", r.arrival(0, 10, 0), INVALID);
        due("arrival(0, -1, 0)", r.arrival(0, -1, 0), INVALID);
        says("node 0 is the depot.");
        Check.refused("house ^0 0 0 1 1 1 1 1 1 1;", 2);
        DeliveryRound s = Check.round("nodes 3;street 1 2 1;street 2 0 7;" + house(1, 0, 1));
        // From node 0 over 2 to 1 and home again: 308, 309, 317.
        due("fastestFinish", s.fastestFinish(), 317);
        says("A street joins two different nodes and can be used in both directions;");
        due("arrival(9, 0, 0)", r.arrival(9, 0, 0), 99);
        due("arrival(0, 8, 0)", r.arrival(0, 8, 0), 100);
        due("arrival(8, 0, 0)", r.arrival(8, 0, 0), 100);
        Check.refused("street 1 ^1 5;", 3);
        says("driving along it takes as many minutes as its length.");
        due("arrival(8, 9, 5)", r.arrival(8, 9, 5), 6);
        due("arrival(9, 0, 5)", r.arrival(9, 0, 5), 104);
    }

    private static void gates() {
        says("A street without a gate can be entered at any time.");
        DeliveryRound r = Check.round("street 0 1 5;");
        for (int minute : new int[] {0, 1, 1439, 1440, 9999, MAX}) {
            due("isOpen(0, " + minute + ")", r.isOpen(0, minute), 1);
        }
        due("arrival(0, 1, 0)", r.arrival(0, 1, 0), 5);
        due("arrival(0, 1, 9999)", r.arrival(0, 1, 9999), 10004);
        says("A street with a gate can be entered from minute from on, and before minute to;");
        r.setGate(0, 700, 702);
        int[] minutes = {0, 699, 700, 701, 702, 703, 1440, 2140, MAX};
        int[] open = {0, 0, 1, 1, 0, 0, 0, 0, 0};
        for (int k = 0; k < minutes.length; k++) {
            due("isOpen(0, " + minutes[k] + ")", r.isOpen(0, minutes[k]), open[k]);
        }
        says("somebody who comes earlier waits, somebody who comes at minute to or later cannot use it.");
        int[] arrivals = {705, 705, 705, 706, ABSENT, ABSENT, ABSENT, ABSENT};
        for (int k = 0; k < arrivals.length; k++) {
            due("arrival(0, 1, " + minutes[k] + ")", r.arrival(0, 1, minutes[k]), arrivals[k]);
            due("arrival(1, 0, " + minutes[k] + ")", r.arrival(1, 0, minutes[k]), arrivals[k]);
        }
        // The smallest gates, at both ends of a day; the drive itself may end after the gate has been shut.
        r.setGate(0, 0, 1);
        due("arrival(0, 1, 0)", r.arrival(0, 1, 0), 5);
        due("arrival(0, 1, 1)", r.arrival(0, 1, 1), ABSENT);
        r.setGate(0, 1439, 1440);
        due("arrival(0, 1, 0)", r.arrival(0, 1, 0), 1444);
        due("arrival(0, 1, 1439)", r.arrival(0, 1, 1439), 1444);
        due("arrival(0, 1, 1440)", r.arrival(0, 1, 1440), ABSENT);
    }

    private static void earliestArrivals() {
        says("The earliest arrival from a node to another one, leaving at a minute or later, is the least minute at "
                + "which one can be there by any sequence of streets;");
        // Straight 10; over 2 it is 9, if the gate of 2 1 lets one wait for nothing.
        DeliveryRound r = Check.round("nodes 3;street 0 1 10;street 0 2 4;street 2 1 5 gate 104 106;");
        due("arrival(0, 1, 98)", r.arrival(0, 1, 98), 108);
        due("arrival(0, 1, 99)", r.arrival(0, 1, 99), 109);
        due("arrival(0, 1, 100)", r.arrival(0, 1, 100), 109);
        due("arrival(0, 1, 101)", r.arrival(0, 1, 101), 110);
        due("arrival(0, 1, 102)", r.arrival(0, 1, 102), 112);
        due("arrival(1, 2, 105)", r.arrival(1, 2, 105), 110);
        due("arrival(1, 2, 106)", r.arrival(1, 2, 106), 120);
        says("from a node to itself it is the minute itself.");
        for (int node = 0; node < 3; node++) {
            due("arrival to itself", r.arrival(node, node, 0), 0);
            due("arrival to itself", r.arrival(node, node, 9999), 9999);
        }
        due("arrival(1, 1, 7) without streets", new DeliveryRound().arrival(1, 1, 7), 7);
        says("There is no arrival if the node cannot be reached like this.");
        due("arrival(0, 1, 7) without streets", new DeliveryRound().arrival(0, 1, 7), ABSENT);
        DeliveryRound s = Check.round("nodes 4;street 0 1 5 gate 10 20;street 1 2 5 gate 10 15;");
        due("arrival(0, 3, 0)", s.arrival(0, 3, 0), ABSENT);
        due("arrival(0, 2, 0)", s.arrival(0, 2, 0), ABSENT);
        due("arrival(1, 2, 14)", s.arrival(1, 2, 14), 19);
        due("arrival(1, 2, 15)", s.arrival(1, 2, 15), ABSENT);
        due("arrival(2, 0, 14)", s.arrival(2, 0, 14), 24);
    }

    private static void demands() {
        says("The demand of a house on a day is its order for the weekday, or 0 if the house is skipped on that day.");
        DeliveryRound r = Check.round("street 0 1 1;house 1 0 0 9 0 9 9 9 9 9;" + house(1, 0, 1));
        due("demand(0)", r.demand(0), 9);
        r.setSkipped(0, true);
        due("demand(0)", r.demand(0), 0);
        due("demand(1)", r.demand(1), 1);
        r.setSkipped(0, false);
        due("demand(0)", r.demand(0), 9);
        r.setSkipped(1, true);
        r.carryOut(BY_NUMBER);
        due("demand(0)", r.demand(0), 0);
        due("demand(1)", r.demand(1), 1);
        says("Each house has a number of bottles, 0 at first.");
        due("bottlesAt(1)", r.bottlesAt(1), 0);
        due("bottlesAt(0)", r.bottlesAt(0), 9);
    }

    private static void stops() {
        says("A stop is a node at which at least one house has a demand greater than 0 today.");
        DeliveryRound r = Check.round("nodes 10;house 9 0 0 1 0 0 0 0 0 0;house 9 0 0 1 1 0 0 0 0 0;"
                + "house 1 0 0 0 9 0 0 0 0 0;");
        due("stops", r.stops(), 512);
        r.setSkipped(0, true);
        due("stops", r.stops(), 512);
        r.setSkipped(1, true);
        due("stops", r.stops(), 0);
        r.carryOut(BY_NUMBER);
        due("stops", r.stops(), 514);
        r.carryOut(BY_NUMBER);
        due("stops", r.stops(), 0);
        says("The total demand is the sum of the demands of all houses.");
        due("totalDemand", r.totalDemand(), 0);
        r.undo();
        due("totalDemand", r.totalDemand(), 10);
        due("totalDemand of no houses", new DeliveryRound().totalDemand(), 0);
        due("totalDemand of 12 houses", Check.round(house(1, 0, 9).repeat(12)).totalDemand(), 108);
    }

    private static void roundWithoutStops() {
        says("A round is given by a sequence of stops.");
        // The empty sequence: the cart is at the depot already.
        for (int choice = BY_NUMBER; choice <= FASTEST; choice++) {
            DeliveryRound r = Check.round("start 77;street 0 1 5;" + house(1, 0, 0));
            due("previewFinish", r.previewFinish(choice), 77);
            due("carryOut", r.carryOut(choice), 0);
            due("finish", r.finish(), 77);
            due("reloads", r.reloads(), 0);
            due("day", r.day(), 1);
        }
    }

    private static void firstLoad() {
        says("The cart starts at the depot, at the start minute, with full bottles: as many as the total demand, but "
                + "not more than the capacity, and without empty bottles.");
        DeliveryRound r = Check.round("cart 10;street 0 1 5;" + house(1, 0, 9) + "house 1 0 0 1 2 1 1 1 1 1;");
        due("a total of the capacity", r.carryOut(BY_NUMBER), 2);
        due("reloads", r.reloads(), 0);
        due("finish", r.finish(), 312);
        due("a total of one more", r.carryOut(BY_NUMBER), 2);
        due("reloads", r.reloads(), 1);
        due("finish", r.finish(), 332);
        // A load of the capacity would leave no room for 9 empty bottles, and so would those of the day before.
        DeliveryRound s = Check.round("cart 10;street 0 1 5;house 1 0 0 9 1 9 9 9 9 9;");
        s.carryOut(BY_NUMBER);
        s.carryOut(BY_NUMBER);
        due("visitReturned(0)", s.visitReturned(0), 9);
        s.setOrder(0, 2, 9);
        s.setOrder(0, 3, 9);
        s.carryOut(BY_NUMBER);
        s.carryOut(BY_NUMBER);
        due("visitReturned(0)", s.visitReturned(0), 9);
    }

    private static void stopsLeftOut() {
        says("For each stop in the sequence the cart drives there and arrives at the earliest arrival;");
        says("if there is none, the stop is left out.");
        // The gate of node 2 shuts at 312. The cart leaves node 1 at 311, a walk of 0; at 313 with a walk of 1.
        String town = "nodes 4;street 0 1 10;street 1 2 5 gate 0 312;street 1 3 5;street 2 3 9;";
        DeliveryRound r = Check.round(town + house(1, 0, 1) + house(2, 0, 1) + house(3, 0, 1));
        due("carryOut", r.carryOut(BY_NUMBER), 3);
        due("visitMinute(1)", r.visitMinute(1), 317);
        due("visitMinute(2)", r.visitMinute(2), 327);
        r.setGate(1, 0, 311);
        r.setGate(3, 0, 316);
        due("carryOut", r.carryOut(BY_NUMBER), 2);
        due("visitHouse(1)", r.visitHouse(1), 2);
        // The cart has lost no time on the way that there is not.
        due("visitMinute(1)", r.visitMinute(1), 317);
        due("finish", r.finish(), 332);
        due("delivered(1)", r.delivered(1), 1);
        // All stops are left out: the cart never leaves the depot.
        DeliveryRound s = Check.round("nodes 3;" + house(1, 0, 1) + house(2, 0, 1));
        due("carryOut", s.carryOut(BY_HABIT), 0);
        due("finish", s.finish(), 300);
    }

    private static void housesOfAStop() {
        says("At the stop, the houses of this node with a demand greater than 0 are visited in the order of their "
                + "numbers:");
        DeliveryRound r = Check.round("nodes 3;street 0 1 10;street 1 2 5;" + house(1, 0, 0) + house(2, 0, 1)
                + house(1, 0, 2) + house(2, 0, 3) + house(1, 0, 4));
        due("carryOut", r.carryOut(BY_NUMBER), 4);
        int[] houses = {2, 4, 1, 3};
        int[] ends = {311, 312, 318, 319};
        for (int visit = 0; visit < 4; visit++) {
            due("visitHouse(" + visit + ")", r.visitHouse(visit), houses[visit]);
            due("visitMinute(" + visit + ")", r.visitMinute(visit), ends[visit]);
        }
        r.setSkipped(2, true);
        due("carryOut", r.carryOut(BY_NUMBER), 3);
        due("visitHouse(0)", r.visitHouse(0), 4);
        due("visitMinute(0)", r.visitMinute(0), 311);
    }

    private static void reloads() {
        says("If the cart has fewer full bottles than the demand of the house, it first drives to the depot,");
        // After 5 of 10 there are 5 left: enough for 5, too few for 6.
        DeliveryRound r = Check.round("cart 10;street 0 1 7;" + house(1, 0, 5) + "house 1 0 0 5 6 5 5 5 5 5;"
                + house(1, 0, 1));
        due("carryOut", r.carryOut(BY_NUMBER), 3);
        due("reloads", r.reloads(), 1);
        due("visitMinute(1)", r.visitMinute(1), 309);
        due("visitMinute(2)", r.visitMinute(2), 334);
        due("carryOut", r.carryOut(BY_NUMBER), 3);
        due("reloads", r.reloads(), 1);
        // 308, home at 315, 10 minutes, back at 332
        due("visitMinute(1)", r.visitMinute(1), 333);
        due("visitMinute(2)", r.visitMinute(2), 334);
        says("This is a reload.");
        DeliveryRound s = Check.round("cart 10;street 0 1 7;" + house(1, 0, 9).repeat(12));
        due("carryOut", s.carryOut(BY_NUMBER), 12);
        // 1 is left each time: 11 reloads of 24 minutes.
        due("reloads", s.reloads(), 11);
        due("finish", s.finish(), 300 + 14 + 12 + 11 * 24);
    }

    private static void loadOfAReload() {
        says("unloads all empty bottles, loads full bottles until it has as many as the demands of all houses that "
                + "have not been visited or left out so far, but not more than the capacity, takes 10 minutes for "
                + "that,");
        // On day 1 house 0 gives 9. They are unloaded and 9 are loaded; so house 1 can give 9 too.
        DeliveryRound r = Check.round("cart 10;street 0 1 7;" + house(1, 0, 9) + house(1, 0, 9));
        r.carryOut(BY_NUMBER);
        due("finish", r.finish(), 300 + 7 + 1 + 7 + 10 + 7 + 1 + 7);
        r.carryOut(BY_NUMBER);
        due("visitReturned(0)", r.visitReturned(0), 9);
        due("visitReturned(1)", r.visitReturned(1), 9);
        // A load of the capacity: 9 and 9 are due, 10 are loaded, 1 is full after the visit, and there is room for 9.
        DeliveryRound s = Check.round("cart 10;street 0 1 7;" + house(1, 9, 9).repeat(3));
        s.carryOut(BY_NUMBER);
        s.carryOut(BY_NUMBER);
        s.setKeep(1, 0);
        s.setKeep(2, 0);
        s.carryOut(BY_NUMBER);
        due("reloads", s.reloads(), 2);
        due("visitReturned(1)", s.visitReturned(1), 9);
        due("visitReturned(2)", s.visitReturned(2), 10);
    }

    private static void roundEndsAtOnce() {
        says("If there is no earliest arrival for one of these two drives, the round ends at once: the cart stays at "
                + "the last node that it reached, and the house and everything after it are left out.");
        String houses = house(1, 0, 6) + house(2, 0, 1) + house(1, 0, 6) + house(1, 0, 1);
        // House 0 is done at 308, when the way home has just been shut.
        DeliveryRound r = Check.round("nodes 3;cart 10;street 0 1 7 gate 0 308;street 1 2 1;" + houses);
        due("previewFinish", r.previewFinish(BY_NUMBER), ABSENT);
        due("carryOut", r.carryOut(BY_NUMBER), 1);
        due("finish", r.finish(), ABSENT);
        due("reloads", r.reloads(), 0);
        due("bottlesOut", r.bottlesOut(), 6);
        due("day", r.day(), 1);
        r.setGate(0, 0, 309);
        due("previewFinish with the gate open a minute longer", r.previewFinish(BY_NUMBER), 325);
        says("(If the drive to the depot is possible but the way back is not, unloading and loading have been done and "
                + "count as a reload.)");
        // Home at 315, loaded at 325: shut at 325, open at 326. Node 2 could be reached, but is left out.
        DeliveryRound s = Check.round("nodes 3;cart 10;street 0 1 7 gate 0 325;street 0 2 1;" + houses);
        due("carryOut", s.carryOut(BY_NUMBER), 1);
        due("reloads", s.reloads(), 1);
        due("bottlesOut", s.bottlesOut(), 6);
        says("a round that ended at once at the depot is finished at the minute at which it ended.");
        due("finish", s.finish(), 325);
        s.setGate(0, 0, 326);
        due("carryOut with the gate open a minute longer", s.carryOut(BY_NUMBER), 3);
        due("finish", s.finish(), ABSENT);
        due("reloads", s.reloads(), 1);
    }

    private static void visits() {
        says("Then the visit takes 2 * walk + 1 minutes.");
        DeliveryRound r = Check.round("street 0 1 5;house 1 0 0 1 1 1 1 1 1 1;house 1 1 0 1 1 1 1 1 1 1;"
                + "house 1 50 0 1 1 1 1 1 1 1;");
        r.carryOut(BY_NUMBER);
        due("visitMinute(0)", r.visitMinute(0), 306);
        due("visitMinute(1)", r.visitMinute(1), 309);
        due("visitMinute(2)", r.visitMinute(2), 410);
        says("The demand is delivered.");
        due("delivered(2)", r.delivered(2), 1);
        DeliveryRound s = Check.round("cart 10;street 0 1 5;" + house(1, 0, 9).repeat(2));
        s.carryOut(BY_NUMBER);
        due("delivered(0)", s.delivered(0), 9);
        due("delivered(1)", s.delivered(1), 9);
    }

    private static void bottlesTakenBack() {
        says("The driver takes back empty bottles: the number of bottles at the house before the delivery minus keep, "
                + "but at least 0");
        int[] keeps = {0, 4, 5, 6, 9};
        int[] taken = {5, 1, 0, 0, 0};
        for (int k = 0; k < keeps.length; k++) {
            DeliveryRound r = Check.round("street 0 1 5;house 1 0 " + keeps[k] + " 5 1 1 1 1 1 1;");
            r.carryOut(BY_NUMBER);
            due("visitReturned(0) on the first day", r.visitReturned(0), 0);
            r.carryOut(BY_NUMBER);
            due("visitReturned(0) with a keep of " + keeps[k], r.visitReturned(0), taken[k]);
            due("bottlesAt(0)", r.bottlesAt(0), 6 - taken[k]);
        }
        says("The bottles at the house increase by the demand and decrease by the bottles taken back.");
        DeliveryRound s = Check.round("street 0 1 5;house 1 0 0 9 1 9 1 1 1 1;");
        int[] bottles = {9, 1, 9, 1};
        for (int day = 0; day < 4; day++) {
            s.carryOut(BY_NUMBER);
            due("bottlesAt(0) after day " + day, s.bottlesAt(0), bottles[day]);
        }
    }

    private static void roomInTheCart() {
        says("and at most the room in the cart, which is the capacity minus all full and empty bottles in it after the "
                + "delivery.");
        // On day 1 the cart of 10 has 1 + last full bottles; after the delivery of 1 there is room for 10 - last.
        for (int last = 0; last <= 9; last++) {
            DeliveryRound r = Check.round("nodes 3;cart 10;street 0 1 5;street 0 2 5;house 1 0 0 5 1 1 1 1 1 1;"
                    + "house 2 0 0 0 " + last + " 1 1 1 1 1;");
            r.carryOut(BY_NUMBER);
            r.carryOut(BY_NUMBER);
            due("visitReturned(0) with " + last + " full", r.visitReturned(0), Math.min(5, 10 - last));
            due("bottlesAt(0)", r.bottlesAt(0), 6 - Math.min(5, 10 - last));
        }
        // Of three houses with an order of 1: 2 full and room for 8; 1 full, 8 empty; none full, 9 empty.
        DeliveryRound s = Check.round("cart 10;street 0 1 5;" + "house 1 0 0 9 0 1 1 1 1 1;".repeat(3));
        s.carryOut(BY_NUMBER);
        s.carryOut(BY_NUMBER);
        s.carryOut(BY_NUMBER);
        due("visitReturned(0)", s.visitReturned(0), 8);
        due("visitReturned(1)", s.visitReturned(1), 1);
        due("visitReturned(2)", s.visitReturned(2), 1);
        // The cart is full before each delivery: there is room for as many as are delivered.
        DeliveryRound t = Check.round("nodes 3;cart 10;street 0 1 5;street 0 2 5;"
                + "house 1 0 0 9 1 1 1 1 1 1;".repeat(2) + "house 2 0 0 0 8 1 1 1 1 1;");
        t.carryOut(BY_NUMBER);
        t.carryOut(BY_NUMBER);
        due("visitReturned(0)", t.visitReturned(0), 1);
        due("visitReturned(1)", t.visitReturned(1), 1);
        t.setOrder(2, 2, 9);
        t.setOrder(1, 2, 0);
        t.carryOut(BY_NUMBER);
        due("visitReturned(0)", t.visitReturned(0), 1);
        due("visitReturned(1)", t.visitReturned(1), 8);
    }

    private static void endOfARound() {
        says("After the last stop the cart drives to the depot.");
        says("The round is finished at this earliest arrival.");
        // The last stop is left at 306; it may wait for the gate until 320.
        DeliveryRound r = Check.round("nodes 3;street 0 1 5 gate 0 301;street 1 2 2;street 2 0 4 gate 320 330;"
                + house(1, 0, 1));
        due("carryOut", r.carryOut(BY_NUMBER), 1);
        due("visitMinute(0)", r.visitMinute(0), 306);
        due("finish", r.finish(), 324);
        says("It is stranded if there is none, or if it ended at once as described above away from the depot;");
        r.setGate(2, 0, 309);
        due("open until 309", r.previewFinish(BY_NUMBER), 312);
        r.setGate(2, 0, 308);
        due("open until 308", r.previewFinish(BY_NUMBER), ABSENT);
        due("carryOut", r.carryOut(BY_NUMBER), 1);
        due("finish", r.finish(), ABSENT);
        DeliveryRound s = Check.round("cart 10;street 0 1 7 gate 0 308;" + house(1, 0, 6).repeat(2));
        due("carryOut", s.carryOut(BY_NUMBER), 1);
        due("finish", s.finish(), ABSENT);
    }

    private static void leftOutAsSoonAs() {
        says("Houses at stops that were left out count as left out as soon as their stop is left out.");
        // Of 9 + 9 + 4, node 1 is out of reach. At the reload 4 are due before it, and 4 + 9 where it comes after.
        DeliveryRound before = Check.round("nodes 3;cart 10;street 0 2 5;" + house(1, 9, 9) + house(2, 9, 9)
                + house(2, 9, 4));
        DeliveryRound after = Check.round("nodes 3;cart 10;street 0 1 5;" + house(2, 9, 9) + house(1, 9, 9)
                + house(1, 9, 4));
        for (DeliveryRound r : new DeliveryRound[] {before, after}) {
            r.carryOut(BY_NUMBER);
            r.carryOut(BY_NUMBER);
            r.carryOut(BY_NUMBER);
            r.setKeep(2, 0);
            due("carryOut", r.carryOut(BY_NUMBER), 2);
            due("reloads", r.reloads(), 1);
        }
        // 12 bottles stand there; no full bottle is left, or 6 are.
        due("visitReturned(1), left out before", before.visitReturned(1), 10);
        due("visitReturned(1), left out after", after.visitReturned(1), 4);
    }

    private static void fullBottlesLeft() {
        says("Full bottles that are left at the end are not counted anywhere.");
        DeliveryRound r = Check.round("nodes 3;cart 10;street 0 1 5;house 1 0 0 1 1 1 1 1 1 1;" + house(2, 0, 9));
        due("carryOut", r.carryOut(BY_NUMBER), 1);
        due("bottlesOut", r.bottlesOut(), 1);
        due("delivered(1)", r.delivered(1), 0);
        due("returned(1)", r.returned(1), 0);
        due("bill(1)", r.bill(1), 0);
        // They are not on the cart on the next day either: there is room for the bottle that was delivered.
        r.setSkipped(1, true);
        due("carryOut", r.carryOut(BY_NUMBER), 1);
        due("visitReturned(0)", r.visitReturned(0), 1);
    }

    private static void habits() {
        says("For each ordered pair of nodes there is a habit, a count that is 0 at first.");
        DeliveryRound r = Check.round("nodes 4;street 0 1 5;street 1 2 5;street 2 0 5;" + house(1, 0, 1)
                + house(2, 0, 1) + house(1, 0, 1) + house(3, 0, 1));
        expectHabits(r, "0000 0000 0000 0000");
        says("When a round is carried out, the habit of each pair of a stop at which at least one house was visited "
                + "and the stop at which the next house at another node was visited increases by 1;");
        says("so does that of the depot and the first such stop, and that of the last such stop and the depot if the "
                + "round is finished there.");
        r.previewFinish(BY_NUMBER);
        expectHabits(r, "0000 0000 0000 0000");
        r.carryOut(BY_NUMBER);
        expectHabits(r, "0100 0010 1000 0000");
        r.setSkipped(1, true);
        r.carryOut(BY_NUMBER);
        expectHabits(r, "0200 1010 1000 0000");
        // Stranded: the gates shut behind the cart, at node 2.
        r.setGate(1, 0, 308);
        r.setGate(2, 0, 308);
        due("carryOut", r.carryOut(BY_NUMBER), 3);
        due("finish", r.finish(), ABSENT);
        expectHabits(r, "0300 1020 1000 0000");
    }

    private static void expectHabits(DeliveryRound r, String counts) {
        String[] rows = counts.split(" ");
        for (int from = 0; from < rows.length; from++) {
            for (int to = 0; to < rows.length; to++) {
                due("habit(" + from + ", " + to + ")", r.habit(from, to), rows[from].charAt(to) - '0');
            }
        }
    }

    private static void habitsWithoutVisits() {
        says("Reloads do not count.");
        DeliveryRound r = Check.round("nodes 3;cart 10;street 0 1 5;street 1 2 5;" + house(1, 0, 6) + house(1, 0, 6)
                + house(2, 0, 9));
        r.carryOut(BY_NUMBER);
        due("reloads", r.reloads(), 2);
        expectHabits(r, "010 001 100");
        // The cart comes to node 2, but the reload for its only house fails: no house was visited there.
        r.setGate(1, 0, 330);
        due("carryOut", r.carryOut(BY_NUMBER), 2);
        due("reloads", r.reloads(), 1);
        due("finish", r.finish(), ABSENT);
        expectHabits(r, "020 001 100");
        // No visit at all.
        DeliveryRound s = Check.round("nodes 3;" + house(1, 0, 6));
        s.carryOut(BY_NUMBER);
        due("finish", s.finish(), 300);
        expectHabits(s, "000 000 000");
        // Ended at once at the depot: finished there.
        DeliveryRound t = Check.round("cart 10;street 0 1 7 gate 0 325;" + house(1, 0, 6).repeat(2));
        t.carryOut(BY_NUMBER);
        due("finish", t.finish(), 325);
        expectHabits(t, "01 10");
    }

    private static void order(String call, DeliveryRound r, boolean horse, int... nodes) {
        for (int k = 0; k <= nodes.length; k++) {
            int got = horse ? r.horseStop(k) : r.fastestStop(k);
            due(call + "(" + k + ")", got, k < nodes.length ? nodes[k] : ABSENT);
        }
    }

    private static void horse() {
        String houses = house(1, 0, 1) + house(2, 0, 1) + house(3, 0, 1);
        says("The horse's order of the stops of today: the horse begins at the depot.");
        order("horseStop of no stops", new DeliveryRound(), true);
        DeliveryRound r = Check.round("nodes 4;street 0 3 1;street 3 2 1;street 2 1 1;" + houses);
        order("horseStop", r, true, 3, 2, 1);
        says("The next stop is, among the stops that are left, the one with the greatest habit from the present node;");
        r.carryOut(BY_NUMBER);
        order("horseStop", r, true, 1, 2, 3);
        // The greatest habit is that of a node that is no stop today.
        r.setSkipped(0, true);
        order("horseStop", r, true, 3, 2);
        r.undo();
        // One more for node 3: 2 to 1.
        r.setSkipped(0, true);
        r.setSkipped(1, true);
        r.carryOut(BY_HABIT);
        r.setSkipped(0, true);
        r.setSkipped(1, true);
        r.carryOut(BY_HABIT);
        order("horseStop", r, true, 3, 2, 1);
        says("among equals the one with the least earliest arrival from the present node leaving at the start minute "
                + "(no arrival counts as later than any);");
        DeliveryRound s = Check.round("nodes 4;street 0 2 9;street 0 3 8;street 2 3 5 gate 300 301;" + houses);
        order("horseStop", s, true, 3, 2, 1);
        says("among equals the lowest node.");
        order("horseStop without ways", Check.round("nodes 4;" + houses), true, 1, 2, 3);
        DeliveryRound t = Check.round("nodes 4;street 0 3 7;street 0 2 7;" + houses);
        order("horseStop", t, true, 2, 3, 1);
    }

    private static void fastestIsDefined() {
        says("It is defined if the total demand of today is at most the capacity.");
        DeliveryRound r = Check.round("cart 18;street 0 1 5;" + house(1, 0, 9).repeat(2) + house(1, 0, 0));
        due("a total of the capacity", r.fastestFinish(), 312);
        order("fastestStop", r, false, 1);
        r.setOrder(2, 0, 1);
        due("a total of one more", r.fastestFinish(), ABSENT);
        order("fastestStop", r, false);
        due("previewFinish(FASTEST)", r.previewFinish(FASTEST), ABSENT);
        due("previewFinish(BY_NUMBER)", r.previewFinish(BY_NUMBER), 333);
        r.setSkipped(2, true);
        due("a total of the capacity", r.fastestFinish(), 312);
    }

    private static void fastestIsPossible() {
        says("An order of all stops of today is possible if every drive of the round has an earliest arrival, the last "
                + "one to the depot included.");
        DeliveryRound r = Check.round("nodes 3;street 0 1 5;" + house(1, 0, 1) + house(2, 0, 1));
        due("a stop out of reach", r.fastestFinish(), ABSENT);
        order("fastestStop", r, false);
        r.setSkipped(1, true);
        due("all in reach", r.fastestFinish(), 311);
        // The way home is shut at 306, open at 307.
        r.setGate(0, 0, 306);
        due("no way home", r.fastestFinish(), ABSENT);
        order("fastestStop", r, false);
        r.setGate(0, 0, 307);
        due("a way home", r.fastestFinish(), 311);
        order("fastestStop", r, false, 1);
    }

    private static void fastestOrder() {
        says("The fastest order is the possible order whose round finishes earliest;");
        String houses = house(1, 0, 1) + house(2, 0, 1);
        // The street 2 0 shuts at 303. 2 1: 302, 303, 305, 306, 315. 1 2: over 2 at 304, 305, 307, 308, over 1 at 319.
        DeliveryRound r = Check.round("nodes 3;street 0 1 9;street 1 2 2;street 2 0 2 gate 0 303;" + houses);
        due("fastestFinish", r.fastestFinish(), 315);
        order("fastestStop", r, false, 2, 1);
        due("previewFinish(BY_NUMBER)", r.previewFinish(BY_NUMBER), 319);
        // Only with node 1 first is node 2 left in time: the street 1 2 opens at 305 and shuts at 306.
        DeliveryRound s = Check.round("nodes 3;street 0 1 4;street 1 2 2 gate 305 306;street 2 0 50;" + houses);
        due("fastestFinish", s.fastestFinish(), 358);
        order("fastestStop", s, false, 1, 2);
        s.setGate(1, 304, 305);
        // Shut a minute too early for that: 304, 305, over the depot 359, 360, 410. But 2 1 comes through the gate on
        // its way out: 306, 307, over the depot 361, 362, 366.
        due("fastestFinish", s.fastestFinish(), 366);
        order("fastestStop", s, false, 2, 1);
        due("previewFinish(BY_NUMBER)", s.previewFinish(BY_NUMBER), 410);
        due("no stops", new DeliveryRound().fastestFinish(), 300);
    }

    private static void fastestAmongEquals() {
        says("among equals the lexicographically first sequence of nodes.");
        StringBuilder star = new StringBuilder("nodes 10;");
        for (int node = 1; node < 10; node++) {
            star.append("street 0 ").append(node).append(" 3;").append(house(node, 0, 1));
        }
        DeliveryRound r = Check.round(star.toString());
        due("fastestFinish", r.fastestFinish(), 300 + 9 * 7);
        order("fastestStop", r, false, 1, 2, 3, 4, 5, 6, 7, 8, 9);
        // Each stop takes 7 minutes. Node 9 is left at 4 minutes after its street was entered: so late it may be.
        for (int before = 0; before < 9; before++) {
            int left = 300 + 7 * before + 4;
            r.setGate(8, 0, left);
            order("fastestStop", r, false, before == 0 ? new int[0] : withLate(9, before - 1));
            r.setGate(8, 0, left + 1);
            order("fastestStop", r, false, withLate(9, before));
            due("fastestFinish", r.fastestFinish(), 300 + 9 * 7);
        }
        DeliveryRound t = Check.round(star.toString());
        // The other way round: node 1 opens late, and waiting for it is lost time.
        for (int before = 1; before < 9; before++) {
            t.setGate(0, 300 + 7 * before, 1440);
            order("fastestStop", t, false, withLate(1, before));
            due("fastestFinish", t.fastestFinish(), 300 + 9 * 7);
            t.setGate(0, 300 + 7 * before + 1, 1440);
            order("fastestStop", t, false, withLate(1, Math.min(before + 1, 8)));
            due("fastestFinish", t.fastestFinish(), 300 + 9 * 7 + (before == 8 ? 1 : 0));
        }
        // All wait for the gate of node 3 at the end, so that the order of the others does not matter.
        DeliveryRound s = Check.round("nodes 4;street 0 1 5;street 0 2 1;street 0 3 1 gate 400 500;" + house(1, 0, 1)
                + house(2, 0, 1) + house(3, 0, 1));
        due("fastestFinish", s.fastestFinish(), 403);
        order("fastestStop", s, false, 1, 2, 3);
    }

    /** The nodes 1 to 9 by number, but one of them after that many others. */
    private static int[] withLate(int late, int before) {
        int[] nodes = new int[9];
        int node = 1;
        for (int place = 0; place < 9; place++) {
            node += node == late ? 1 : 0;
            nodes[place] = place == before ? late : node++;
        }
        return nodes;
    }

    private static void constants() {
        says("`INVALID = -1`: An argument is out of range, or there is no such house, street or node.");
        due("INVALID", INVALID, -1);
        due("houseNode(0)", new DeliveryRound().houseNode(0), -1);
        says("`ABSENT = -2`: What was asked for does not exist.");
        due("ABSENT", ABSENT, -2);
        due("undo", new DeliveryRound().undo(), -2);
        says("`BY_NUMBER = 0, BY_HABIT = 1, FASTEST = 2`: Ways to choose the order of the stops of a round.");
        due("BY_NUMBER", BY_NUMBER, 0);
        due("BY_HABIT", BY_HABIT, 1);
        due("FASTEST", FASTEST, 2);
    }
}
