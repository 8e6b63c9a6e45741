/** Each promise of the document: ordinary inputs, the edges that it names, and wrong inputs. */
public final class PromiseTest {
    private static final int INVALID = DeliveryRound.INVALID;
    private static final int ABSENT = DeliveryRound.ABSENT;
    private static final int BY_NUMBER = DeliveryRound.BY_NUMBER;
    private static final int BY_HABIT = DeliveryRound.BY_HABIT;
    private static final int FASTEST = DeliveryRound.FASTEST;
    private static final int MAX = Integer.MAX_VALUE;
    private static final int MIN = Integer.MIN_VALUE;

    /** Two houses at node 1, one at node 2; a gate between 1 and 2. */
    private static final String TOWN = "nodes 3; cart 20; start 300; price 7 3;"
            + "street 0 1 10; street 1 2 5 gate 320 400; street 2 0 30;"
            + "house 1 2 1 3 4 3 3 3 3 3; house 2 0 0 5 0 5 5 5 5 5; house 1 1 0 2 1 2 2 2 2 2;";

    private PromiseTest() {
    }

    public static void main(String[] args) {
        newObject();
        append();
        appendLimit();
        parseSyntax();
        parseEnds();
        parseRange();
        parseRepeated();
        parseTooMany();
        parseAccepts();
        parseLength();
        parseKeepsAfterError();
        parseClears();
        parseReplaces();
        plainNumbers();
        houseNodeAndOrder();
        isOpen();
        arrival();
        arrivalThroughGates();
        demandAndStops();
        demandByWeekday();
        habit();
        habitOfStrandedAndEmptyRounds();
        horse();
        horseTies();
        fastest();
        fastestTies();
        fastestAbsent();
        preview();
        ledger();
        records();
        returnsAndRoom();
        roomIsShared();
        reload();
        reloadWithoutWayToDepot();
        reloadWithoutWayBack();
        leftOutStops();
        carryOut();
        setSkipped();
        breakBottles();
        setOrder();
        setKeep();
        setGate();
        undo();
        undoLimit();
        snapshots();
        Check.end();
    }

    private static void due(String call, long got, long want) {
        Check.due(call, got, want);
    }

    private static void due(String call, boolean got, boolean want) {
        Check.due(call, got, want);
    }

    private static void error(String marked, int kind) {
        Check.refused(marked, kind);
    }

    private static void accepted(String text, int houses) {
        Check.accepted(text, houses);
    }

    private static String times(int count, String text) {
        return text.repeat(count);
    }

    private static final String HOUSE = "house 1 0 0 1 1 1 1 1 1 1;";

    private static void newObject() {
        Check.promise(1);
        DeliveryRound r = new DeliveryRound();
        due("nodeCount", r.nodeCount(), 2);
        due("streetCount", r.streetCount(), 0);
        due("houseCount", r.houseCount(), 0);
        due("capacity", r.capacity(), 60);
        due("day", r.day(), 0);
        due("parse(1)", r.parse(1), INVALID);
        due("arrival(0, 1, 0)", r.arrival(0, 1, 0), ABSENT);
        due("arrival(1, 1, 5)", r.arrival(1, 1, 5), 5);
        due("stops", r.stops(), 0);
        due("fastestFinish", r.fastestFinish(), 300);
        due("undo", r.undo(), ABSENT);
        due("restoreSnapshot(0)", r.restoreSnapshot(0), false);
        due("restoreSnapshot(1)", r.restoreSnapshot(1), false);
        due("finish", r.finish(), ABSENT);
        due("carryOut", r.carryOut(BY_NUMBER), 0);
        due("finish", r.finish(), 300);
    }

    private static void append() {
        Check.promise(2);
        DeliveryRound r = new DeliveryRound();
        // "cart", " 150", ";pri", "ce 9", " 8 ;"
        due("append", r.append(0x63617274, 0x20313530, 0x3b707269, 0x63652039, 0x2038203b), 20);
        due("append", r.append(0x6e6f6465, 0x73203720, 0x3b202020, 0x20202020, 0x20202020), 40);
        due("parse(40)", r.parse(40), 0);
        due("capacity", r.capacity(), 150);
        due("nodeCount", r.nodeCount(), 7);
        due("append after parse", r.append(0x20202020, 0x20208020, 0, 0, 0), 20);
        due("a byte of 128", r.parse(20), Check.error(6, 1));
        due("append", r.append(0xff202020, 0, 0, 0, 0), 20);
        due("a byte of 255", r.parse(4), Check.error(0, 1));
    }

    private static void appendLimit() {
        DeliveryRound r = new DeliveryRound();
        for (int i = 1; i <= 45; i++) {
            due("append " + i, r.append(0x20202020, 0x20202020, 0x20202020, 0x20202020, 0x20202020), 20 * i);
        }
        due("append 46", r.append(0, 0, 0, 0, 0), INVALID);
        due("append 47", r.append(0, 0, 0, 0, 0), INVALID);
        due("parse(901)", r.parse(901), INVALID);
        due("parse(900)", r.parse(900), 0);
        due("append after parse", r.append(0, 0, 0, 0, 0), 20);
    }

    private static void parseSyntax() {
        Check.promise(3);
        error("^;", 1);
        error("^5;", 1);
        error("^gate 1 2;", 1);
        error("^nod 3;", 1);
        error("^nodess 3;", 1);
        error("^xodes 3;", 1);
        error("^nodex 3;", 1);
        error("^housez 1;", 1);
        error("^acart 20;", 1);
        error("cart 20^`", 1);
        error("cart 20^{", 1);
        error("cart 20^:", 1);
        error("cart 20^/", 1);
        error("^abcdefg;", 1);
        error("^Nodes 3;", 1);
        error("nodes ^\t3;", 1);
        error("nodes 3;^\u0000", 1);
        error("nodes 3;^\u00e9", 1);
        error("nodes 3^,", 1);
        error("nodes ^-3;", 1);
        error("nodes ^12345;", 1);
        error("nodes ^00003;", 1);
        error("nodes ^x;", 1);
        error("nodes ^;", 1);
        error("nodes 3 ^4;", 1);
        error("nodes 3;^;", 1);
        error("cart ^cart 20;", 1);
        error("cart 20 ^cart 20;", 1);
        error("price 5 ^;", 1);
        error("start ^nodes;", 1);
        error("street 0 1 ^gate 1 2;", 1);
        error("street 0 1 5 ^gates 1 2;", 1);
        error("street 0 1 5 gate 3 ^;", 1);
        error("street 0 1 5 gate 3 4 ^gate 5 6;", 1);
        error("street 0 1 5 ^7;", 1);
        error("house 1 0 0 1 1 1 1 1 1 ^;", 1);
        error("house 1 0 0 1 1 1 1 1 1 1 ^1;", 1);
        error("street 0 1 5; ^nodes 3;", 1);
        error("house 1 0 0 1 1 1 1 1 1 1; ^nodes 3;", 1);
        error("nodes 3; street 0 1 5; ^nodes 3;", 1);
        // the lowest offset counts before the lowest kind
        error("nodes ^11; ?", 2);
        error("cart ^9 A", 2);
    }

    private static void parseEnds() {
        error("nodes^", 1);
        error("nodes ^", 1);
        error("nodes 3^", 1);
        error("nodes 3 \n  ^", 1);
        error("street 0 1 5 gate^", 1);
        error("street 0 1 5 gate 0 9^", 1);
        error("house 1 0 0 1 1 1 1 1 1 1 ^", 1);
        error("cart 20; price 1^", 1);
        // a run that the length cuts short is as long as what is left of it
        DeliveryRound r = new DeliveryRound();
        Check.feed(r, "cart 2000;");
        due("parse(7)", r.parse(7), Check.error(7, 1));
        Check.feed(r, "cart 2000;");
        due("parse(10)", r.parse(10), Check.error(5, 2));
    }

    private static void parseRange() {
        error("nodes ^1;", 2);
        error("nodes ^11;", 2);
        error("cart ^9;", 2);
        error("cart ^201;", 2);
        error("start ^1440;", 2);
        error("price ^100 1;", 2);
        error("price 1 ^100;", 2);
        error("street ^2 1 5;", 2);
        error("street 0 ^2 5;", 2);
        error("nodes 5; street ^5 1 5;", 2);
        error("nodes 5; street 1 ^5 5;", 2);
        error("street 0 1 ^0;", 2);
        error("street 0 1 ^100;", 2);
        error("street 0 1 5 gate ^1440 1440;", 2);
        error("street 0 1 5 gate 7 ^7;", 2);
        error("street 0 1 5 gate 7 ^6;", 2);
        error("street 0 1 5 gate 7 ^1441;", 2);
        error("house ^0 0 0 1 1 1 1 1 1 1;", 2);
        error("house ^2 0 0 1 1 1 1 1 1 1;", 2);
        error("house 1 ^51 0 1 1 1 1 1 1 1;", 2);
        error("house 1 0 ^10 1 1 1 1 1 1 1;", 2);
        error("house 1 0 0 ^10 1 1 1 1 1 1;", 2);
        error("house 1 0 0 1 1 1 1 1 1 ^10;", 2);
    }

    private static void parseRepeated() {
        error("nodes 3; ^nodes 3;", 3);
        error("cart 20; ^cart 20;", 3);
        error("start 20; ^start 20;", 3);
        error("price 20 1; ^price 20 1;", 3);
        error("cart 20;nodes 4; ^cart;", 3);
        error("street 0 ^0 5;", 3);
        error("street 1 ^1 0;", 3);
        error("nodes 3; street 1 2 5; street 1 ^2 5;", 3);
        error("nodes 3; street 1 2 5; street 0 2 1; street 2 ^1 7;", 3);
    }

    private static void parseTooMany() {
        StringBuilder streets = new StringBuilder("nodes 10;");
        int count = 0;
        for (int a = 0; a < 10 && count < 18; a++) {
            for (int b = a + 1; b < 10 && count < 18; b++) {
                streets.append("street ").append(a).append(' ').append(b).append(" 9;");
                count++;
            }
        }
        accepted(streets.toString(), 0);
        error(streets + "^street 8 9 9;", 4);
        error(streets + "^street", 4);
        error(streets + "house 1 ^;", 1);
        accepted(times(12, HOUSE), 12);
        error(times(12, HOUSE) + "^house 1 0 0 1 1 1 1 1 1 1;", 4);
        error(times(12, HOUSE) + "^house;", 4);
        accepted(streets + times(12, HOUSE), 12);
    }

    private static void parseAccepts() {
        accepted("", 0);
        accepted(" \n ", 0);
        accepted("nodes 2;", 0);
        accepted("nodes 10;", 0);
        accepted("cart 10;", 0);
        accepted("cart 200;", 0);
        accepted("start 0;", 0);
        accepted("start 1439;", 0);
        accepted("price 0 0;", 0);
        accepted("price 99 99;", 0);
        accepted("street 1 0 1 gate 0 1;", 0);
        accepted("street 1 0 99 gate 1439 1440;", 0);
        accepted("house 1 50 9 9 9 9 9 9 9 9;", 1);
        accepted("house 1 0 0 0 0 0 0 0 0 0;", 1);
        accepted("cart 0010;", 0);
        accepted("\nnodes\n3\n;\nhouse 2 0 0 1 1 1 1 1 1 1;\n", 1);
        accepted("nodes3;cart20;street0 1 5gate7 9;", 0);
        accepted("cart 20;start 5;price 1 2;nodes 5;street 0 4 1;", 0);
        accepted("street 0 1 5;cart 20;start 5;price 1 2;", 0);
    }

    private static void parseLength() {
        DeliveryRound r = new DeliveryRound();
        Check.feed(r, "cart 20;cart");
        due("parse(-1)", r.parse(-1), INVALID);
        due("parse(21)", r.parse(21), INVALID);
        due("parse(MIN)", r.parse(MIN), INVALID);
        due("parse(MAX)", r.parse(MAX), INVALID);
        due("capacity", r.capacity(), 60);
        due("parse(8)", r.parse(8), 0);
        due("capacity", r.capacity(), 20);
        due("parse(8) again", r.parse(8), INVALID);
        Check.feed(r, "nodes 9;" + HOUSE);
        due("parse(0)", r.parse(0), 0);
        due("nodeCount", r.nodeCount(), 2);
        due("capacity", r.capacity(), 60);
        due("parse(1)", r.parse(1), INVALID);
    }

    private static void parseKeepsAfterError() {
        DeliveryRound r = Check.round(TOWN);
        r.carryOut(BY_NUMBER);
        r.saveSnapshot(1);
        r.setSkipped(0, true);
        due("parse", Check.parse(r, "nodes 5; cart 99; house 4 0 0 1 1 1 1 1 1 1"), Check.error(43, 1));
        due("buffer", r.parse(1), INVALID);
        due("nodeCount", r.nodeCount(), 3);
        due("streetCount", r.streetCount(), 3);
        due("houseCount", r.houseCount(), 3);
        due("capacity", r.capacity(), 20);
        due("day", r.day(), 1);
        due("demand(0)", r.demand(0), 0);
        due("houseNode(0)", r.houseNode(0), 1);
        due("bottlesAt(0)", r.bottlesAt(0), 3);
        due("habit(0, 1)", r.habit(0, 1), 1);
        due("visitCount", r.visitCount(), 3);
        due("undo", r.undo(), 1);
        due("undo", r.undo(), 0);
        due("restoreSnapshot(1)", r.restoreSnapshot(1), true);
        due("bottlesAt(0)", r.bottlesAt(0), 3);
    }

    private static void parseClears() {
        DeliveryRound r = Check.round(TOWN);
        r.setGate(0, 0, 1000);
        r.carryOut(BY_NUMBER);
        r.breakBottles(0, 1);
        r.saveSnapshot(0);
        r.saveSnapshot(1);
        r.setSkipped(1, true);
        due("parse", Check.parse(r, TOWN), 3);
        due("day", r.day(), 0);
        due("bottlesAt(0)", r.bottlesAt(0), 0);
        due("delivered(0)", r.delivered(0), 0);
        due("returned(0)", r.returned(0), 0);
        due("broken(0)", r.broken(0), 0);
        due("habit(0, 1)", r.habit(0, 1), 0);
        due("demand(1)", r.demand(1), 5);
        due("isOpen(0, 1200)", r.isOpen(0, 1200), 1);
        due("finish", r.finish(), ABSENT);
        due("visitCount", r.visitCount(), 0);
        due("reloads", r.reloads(), 0);
        due("undo", r.undo(), ABSENT);
        due("restoreSnapshot(0)", r.restoreSnapshot(0), false);
        due("restoreSnapshot(1)", r.restoreSnapshot(1), false);
    }

    private static void parseReplaces() {
        DeliveryRound r = Check.round(TOWN);
        order("fastestStop", r, 1, 2);
        due("parse", Check.parse(r, "nodes 4;street 0 1 10;house 3 0 0 1 1 1 1 1 1 1;"), 1);
        due("fastestFinish", r.fastestFinish(), ABSENT);
        due("totalDemand", r.totalDemand(), 1);
        due("stops", r.stops(), 8);
        due("arrival(0, 2, 300)", r.arrival(0, 2, 300), ABSENT);
        due("carryOut", r.carryOut(BY_NUMBER), 0);
        due("parse", Check.parse(r, "street 0 1 10 gate 40 50;house 1 0 0 2 2 2 2 2 2 2;"), 1);
        due("isOpen(0, 60)", r.isOpen(0, 60), 0);
        due("fastestFinish", r.fastestFinish(), ABSENT);
        due("parse", Check.parse(r, "street 0 1 10;house 1 0 0 2 2 2 2 2 2 2;"), 1);
        due("isOpen(0, 60)", r.isOpen(0, 60), 1);
        due("isOpen(0, 30)", r.isOpen(0, 30), 1);
        due("arrival(0, 1, 0)", r.arrival(0, 1, 0), 10);
        due("fastestFinish", r.fastestFinish(), 321);
        due("carryOut", r.carryOut(BY_NUMBER), 1);
        due("bottlesOut", r.bottlesOut(), 2);
    }

    private static void plainNumbers() {
        DeliveryRound r = Check.round(TOWN);
        Check.promise(4);
        due("nodeCount", r.nodeCount(), 3);
        Check.promise(5);
        due("streetCount", r.streetCount(), 3);
        Check.promise(6);
        due("houseCount", r.houseCount(), 3);
        Check.promise(7);
        due("capacity", r.capacity(), 20);
        Check.promise(8);
        due("day", r.day(), 0);
        for (int day = 1; day <= 20; day++) {
            r.carryOut(BY_NUMBER);
            due("day", r.day(), day);
        }
        r.undo();
        due("day", r.day(), 19);
        due("streetCount", r.streetCount(), 3);
    }

    private static void houseNodeAndOrder() {
        DeliveryRound r = Check.round(TOWN);
        Check.promise(9);
        due("houseNode(0)", r.houseNode(0), 1);
        due("houseNode(1)", r.houseNode(1), 2);
        due("houseNode(2)", r.houseNode(2), 1);
        due("houseNode(3)", r.houseNode(3), INVALID);
        due("houseNode(-1)", r.houseNode(-1), INVALID);
        due("houseNode(MIN)", r.houseNode(MIN), INVALID);
        Check.promise(10);
        DeliveryRound s = Check.round("house 1 0 9 1 2 3 4 5 6 7; house 1 1 8 7 6 5 4 3 2 1;");
        for (int weekday = 0; weekday < 7; weekday++) {
            due("order(0, " + weekday + ")", s.order(0, weekday), weekday + 1);
            due("order(1, " + weekday + ")", s.order(1, weekday), 7 - weekday);
        }
        due("order(0, 7)", s.order(0, 7), INVALID);
        due("order(0, -1)", s.order(0, -1), INVALID);
        due("order(2, 0)", s.order(2, 0), INVALID);
        due("order(-1, 6)", s.order(-1, 6), INVALID);
        due("order(MAX, MAX)", s.order(MAX, MAX), INVALID);
        s.setOrder(1, 3, 9);
        due("order(1, 3)", s.order(1, 3), 9);
        due("order(0, 3)", s.order(0, 3), 4);
    }

    private static void isOpen() {
        Check.promise(11);
        DeliveryRound r = Check.round(TOWN);
        due("isOpen(0, 0)", r.isOpen(0, 0), 1);
        due("isOpen(0, MAX)", r.isOpen(0, MAX), 1);
        due("isOpen(0, -1)", r.isOpen(0, -1), INVALID);
        due("isOpen(1, 0)", r.isOpen(1, 0), 0);
        due("isOpen(1, 319)", r.isOpen(1, 319), 0);
        due("isOpen(1, 320)", r.isOpen(1, 320), 1);
        due("isOpen(1, 399)", r.isOpen(1, 399), 1);
        due("isOpen(1, 400)", r.isOpen(1, 400), 0);
        due("isOpen(1, 1760)", r.isOpen(1, 1760), 0);
        due("isOpen(1, MAX)", r.isOpen(1, MAX), 0);
        due("isOpen(1, MIN)", r.isOpen(1, MIN), INVALID);
        due("isOpen(3, 5)", r.isOpen(3, 5), INVALID);
        due("isOpen(-1, 5)", r.isOpen(-1, 5), INVALID);
        r.setGate(0, 0, 1440);
        due("isOpen(0, 0)", r.isOpen(0, 0), 1);
        due("isOpen(0, 1439)", r.isOpen(0, 1439), 1);
        due("isOpen(0, 1440)", r.isOpen(0, 1440), 0);
    }

    private static void arrival() {
        Check.promise(12);
        DeliveryRound r = Check.round(TOWN);
        due("arrival(0, 1, 300)", r.arrival(0, 1, 300), 310);
        due("arrival(1, 0, 300)", r.arrival(1, 0, 300), 310);
        due("arrival(0, 2, 300)", r.arrival(0, 2, 300), 325);
        due("arrival(0, 2, 280)", r.arrival(0, 2, 280), 310);
        due("arrival(0, 2, 389)", r.arrival(0, 2, 389), 404);
        due("arrival(0, 2, 390)", r.arrival(0, 2, 390), 420);
        due("arrival(1, 2, 399)", r.arrival(1, 2, 399), 404);
        due("arrival(1, 2, 400)", r.arrival(1, 2, 400), 440);
        due("arrival(2, 2, 9999)", r.arrival(2, 2, 9999), 9999);
        due("arrival(0, 1, 9999)", r.arrival(0, 1, 9999), 10009);
        due("arrival(0, 0, 0)", r.arrival(0, 0, 0), 0);
        due("arrival(0, 1, 10000)", r.arrival(0, 1, 10000), INVALID);
        due("arrival(0, 0, 10000)", r.arrival(0, 0, 10000), INVALID);
        due("arrival(0, 1, -1)", r.arrival(0, 1, -1), INVALID);
        due("arrival(3, 1, 0)", r.arrival(3, 1, 0), INVALID);
        due("arrival(0, 3, 0)", r.arrival(0, 3, 0), INVALID);
        due("arrival(-1, 0, 0)", r.arrival(-1, 0, 0), INVALID);
        due("arrival(0, -1, 0)", r.arrival(0, -1, 0), INVALID);
        due("arrival(5, 5, 7)", r.arrival(5, 5, 7), INVALID);
        DeliveryRound s = Check.round("nodes 4; street 0 1 1; street 2 3 1;");
        due("no way", s.arrival(0, 2, 0), ABSENT);
        due("no way, wrong minute", s.arrival(0, 2, 10000), INVALID);
        due("a way", s.arrival(3, 2, 0), 1);
    }

    private static void arrivalThroughGates() {
        // the long way of nine streets, against the numbers of the streets
        StringBuilder text = new StringBuilder("nodes 10;");
        for (int a = 8; a >= 0; a--) {
            text.append("street ").append(a).append(' ').append(a + 1).append(" 1;");
        }
        text.append("street 0 9 10;");
        DeliveryRound r = Check.round(text.toString());
        due("arrival(0, 9, 5)", r.arrival(0, 9, 5), 14);
        due("arrival(9, 0, 5)", r.arrival(9, 0, 5), 14);
        r.setGate(4, 20, 21);
        due("arrival(0, 9, 5)", r.arrival(0, 9, 5), 15);
        r.setGate(9, 30, 31);
        due("arrival(0, 9, 5)", r.arrival(0, 9, 5), 25);
        due("arrival(0, 9, 16)", r.arrival(0, 9, 16), 25);
        due("arrival(0, 9, 17)", r.arrival(0, 9, 17), 40);
        due("arrival(0, 9, 30)", r.arrival(0, 9, 30), 40);
        due("arrival(0, 9, 31)", r.arrival(0, 9, 31), ABSENT);
        // a gate does not open again on the next day
        due("arrival(0, 9, 1450)", r.arrival(0, 9, 1450), ABSENT);
    }

    private static void demandAndStops() {
        DeliveryRound r = Check.round(TOWN);
        Check.promise(13);
        due("demand(0)", r.demand(0), 3);
        due("demand(1)", r.demand(1), 5);
        due("demand(2)", r.demand(2), 2);
        due("demand(3)", r.demand(3), INVALID);
        due("demand(-1)", r.demand(-1), INVALID);
        Check.promise(14);
        due("totalDemand", r.totalDemand(), 10);
        Check.promise(15);
        due("stops", r.stops(), 6);
        r.setSkipped(0, true);
        due("demand(0)", r.demand(0), 0);
        due("totalDemand", r.totalDemand(), 7);
        due("stops", r.stops(), 6);
        r.setSkipped(2, true);
        due("stops", r.stops(), 4);
        r.setSkipped(1, true);
        due("stops", r.stops(), 0);
        due("totalDemand", r.totalDemand(), 0);
        r.carryOut(BY_NUMBER);
        due("demand(0)", r.demand(0), 4);
        due("demand(1)", r.demand(1), 0);
        due("totalDemand", r.totalDemand(), 5);
        due("stops", r.stops(), 2);
        DeliveryRound s = Check.round("nodes 10; house 9 0 0 1 1 1 1 1 1 1; house 1 0 0 9 9 9 9 9 9 9;");
        due("stops", s.stops(), 514);
        due("totalDemand", s.totalDemand(), 10);
    }

    private static void demandByWeekday() {
        Check.promise(13);
        DeliveryRound r = Check.round("street 0 1 1; house 1 0 0 1 2 3 4 5 6 7;");
        for (int day = 0; day < 16; day++) {
            due("demand on day " + day, r.demand(0), day % 7 + 1);
            due("totalDemand on day " + day, r.totalDemand(), day % 7 + 1);
            r.carryOut(BY_NUMBER);
        }
    }

    private static void habit() {
        Check.promise(16);
        DeliveryRound r = Check.round(TOWN);
        due("habit(0, 1)", r.habit(0, 1), 0);
        r.carryOut(BY_NUMBER);
        due("habit(0, 1)", r.habit(0, 1), 1);
        due("habit(1, 2)", r.habit(1, 2), 1);
        due("habit(2, 0)", r.habit(2, 0), 1);
        due("habit(1, 1)", r.habit(1, 1), 0);
        due("habit(1, 0)", r.habit(1, 0), 0);
        due("habit(2, 1)", r.habit(2, 1), 0);
        r.carryOut(BY_NUMBER);
        due("habit(0, 1)", r.habit(0, 1), 2);
        due("habit(1, 2)", r.habit(1, 2), 1);
        due("habit(1, 0)", r.habit(1, 0), 1);
        due("habit(3, 0)", r.habit(3, 0), INVALID);
        due("habit(0, 3)", r.habit(0, 3), INVALID);
        due("habit(-1, 0)", r.habit(-1, 0), INVALID);
        due("habit(0, -1)", r.habit(0, -1), INVALID);
    }

    private static void habitOfStrandedAndEmptyRounds() {
        DeliveryRound r = Check.round("start 100; street 0 1 10 gate 100 105;" + HOUSE);
        due("carryOut", r.carryOut(BY_NUMBER), 1);
        due("finish", r.finish(), ABSENT);
        due("habit(0, 1)", r.habit(0, 1), 1);
        due("habit(1, 0)", r.habit(1, 0), 0);
        // the depot is not a stop, and a stop that was left out is none of the pair
        DeliveryRound s = Check.round("nodes 4; street 0 1 10; street 1 3 1;"
                + "house 1 0 0 1 1 1 1 1 1 1; house 2 0 0 1 1 1 1 1 1 1; house 3 0 0 1 1 1 1 1 1 1;");
        s.carryOut(BY_NUMBER);
        due("habit(1, 3)", s.habit(1, 3), 1);
        due("habit(1, 2)", s.habit(1, 2), 0);
        due("habit(2, 3)", s.habit(2, 3), 0);
        DeliveryRound t = Check.round(HOUSE);
        t.carryOut(BY_NUMBER);
        due("habit(0, 0)", t.habit(0, 0), 0);
        due("habit(0, 1)", t.habit(0, 1), 0);
        due("habit(1, 0)", t.habit(1, 0), 0);
    }

    private static void order(String name, DeliveryRound r, int... nodes) {
        for (int k = 0; k < nodes.length; k++) {
            due(name + "(" + k + ")", name.equals("horseStop") ? r.horseStop(k) : r.fastestStop(k), nodes[k]);
        }
        int past = nodes.length;
        due(name + "(" + past + ")", name.equals("horseStop") ? r.horseStop(past) : r.fastestStop(past), ABSENT);
        due(name + "(MAX)", name.equals("horseStop") ? r.horseStop(MAX) : r.fastestStop(MAX), ABSENT);
        due(name + "(-1)", name.equals("horseStop") ? r.horseStop(-1) : r.fastestStop(-1), INVALID);
        due(name + "(MIN)", name.equals("horseStop") ? r.horseStop(MIN) : r.fastestStop(MIN), INVALID);
    }

    private static void horse() {
        Check.promise(17);
        DeliveryRound r = Check.round("nodes 4; street 0 1 30; street 0 2 20; street 0 3 10; street 1 3 2;"
                + "house 1 0 0 1 1 1 1 1 1 1; house 2 0 0 1 1 1 1 1 1 1; house 3 0 0 1 1 1 1 1 1 1;");
        // nearest first: 3 at 310, then 1 at 302 from there, then 2
        order("horseStop", r, 3, 1, 2);
        r.carryOut(BY_NUMBER);
        order("horseStop", r, 1, 2, 3);
        r.setSkipped(1, true);
        order("horseStop", r, 1, 3);
        r.setSkipped(0, true);
        order("horseStop", r, 3);
        r.setSkipped(2, true);
        order("horseStop", r);
        r.undo();
        r.undo();
        r.undo();
        r.undo();
        order("horseStop", r, 3, 1, 2);
        order("horseStop", new DeliveryRound());
        // one round more for a stop that is farther and has a higher number
        DeliveryRound s = Check.round("nodes 4; street 0 1 1; street 0 3 9;"
                + "house 1 0 0 0 1 1 1 1 1 1; house 3 0 0 1 1 1 1 1 1 1;");
        s.carryOut(BY_NUMBER);
        order("horseStop", s, 3, 1);
        s.carryOut(BY_NUMBER);
        order("horseStop", s, 1, 3);
    }

    private static void horseTies() {
        // equal arrivals: the lowest node; nodes without an arrival come last, the lowest first
        DeliveryRound r = Check.round("nodes 6; street 0 5 4; street 0 4 4;"
                + "house 5 0 0 1 1 1 1 1 1 1; house 4 0 0 1 1 1 1 1 1 1; house 3 0 0 1 1 1 1 1 1 1;"
                + "house 2 0 0 1 1 1 1 1 1 1;");
        order("horseStop", r, 4, 5, 2, 3);
        // the arrival is that of leaving at the start minute, also from later stops
        DeliveryRound s = Check.round("nodes 4; start 300; street 0 1 10; street 1 2 5 gate 300 305; street 1 3 6;"
                + "house 1 0 0 1 1 1 1 1 1 1; house 2 0 0 1 1 1 1 1 1 1; house 3 0 0 1 1 1 1 1 1 1;");
        order("horseStop", s, 1, 2, 3);
        due("carryOut", s.carryOut(BY_HABIT), 2);
    }

    private static void fastest() {
        Check.promise(18);
        DeliveryRound r = Check.round(TOWN);
        // 1, 2: 310, visits 5 + 3 to 318, gate at 320, 325, 326, back through 1: 331, 341
        // 2, 1: 325, 326, 331, 339, 349
        due("fastestFinish", r.fastestFinish(), 341);
        Check.promise(19);
        order("fastestStop", r, 1, 2);
        // 1, 2: through the gate at 318, 323, 324, and home by the street 2 0: 354
        // 2, 1: 315, 316, through the gate before 319: 321, 329, 339
        r.setGate(1, 0, 319);
        order("fastestStop", r, 2, 1);
        due("fastestFinish", r.fastestFinish(), 339);
        r.undo();
        due("fastestFinish", r.fastestFinish(), 341);
        r.setSkipped(1, true);
        due("fastestFinish", r.fastestFinish(), 328);
        order("fastestStop", r, 1);
        r.setSkipped(0, true);
        due("fastestFinish", r.fastestFinish(), 323);
        r.setSkipped(2, true);
        due("fastestFinish", r.fastestFinish(), 300);
        order("fastestStop", r);
        due("previewFinish", r.previewFinish(FASTEST), 300);
    }

    private static void fastestTies() {
        String houses = "house 1 0 0 1 1 1 1 1 1 1; house 2 0 0 1 1 1 1 1 1 1;"
                + "house 3 0 0 1 1 1 1 1 1 1; house 4 0 0 1 1 1 1 1 1 1;";
        // Node 4 opens at 400 on both sides: all orders with 4 at the end finish at 411, and of those
        // 1 2 3 4 comes first, though 2 1 3 is done earlier than 1 2 3.
        DeliveryRound r = Check.round("nodes 5; street 0 2 1; street 0 1 10; street 1 2 5; street 1 3 1;"
                + "street 2 3 10; street 3 4 5 gate 400 500; street 4 0 5 gate 400 500;" + houses);
        due("fastestFinish", r.fastestFinish(), 411);
        order("fastestStop", r, 1, 2, 3, 4);
        due("carryOut", r.carryOut(FASTEST), 4);
        due("visitHouse(1)", r.visitHouse(1), 1);
        due("finish", r.finish(), 411);
        // a ring, the same in both directions
        DeliveryRound s = Check.round("nodes 5; street 0 4 2; street 4 3 2; street 3 2 2; street 2 1 2; street 1 0 2;"
                + houses);
        due("fastestFinish", s.fastestFinish(), 314);
        order("fastestStop", s, 1, 2, 3, 4);
        // all nine stops in a line that is walked out and home
        StringBuilder line = new StringBuilder("nodes 10;");
        for (int a = 0; a < 9; a++) {
            line.append("street ").append(a).append(' ').append(a + 1).append(" 3;");
            line.append("house ").append(a + 1).append(" 0 0 1 1 1 1 1 1 1;");
        }
        DeliveryRound t = Check.round(line.toString());
        due("fastestFinish", t.fastestFinish(), 300 + 54 + 9);
        order("fastestStop", t, 1, 2, 3, 4, 5, 6, 7, 8, 9);
        // Without a visit before it, node 9 is left at 328; each visit on the way out makes that a minute later.
        t.setGate(8, 0, 328);
        due("fastestFinish", t.fastestFinish(), ABSENT);
        t.setGate(8, 0, 329);
        due("fastestFinish", t.fastestFinish(), 363);
        order("fastestStop", t, 9, 8, 7, 6, 5, 4, 3, 2, 1);
        t.setGate(8, 0, 333);
        due("fastestFinish", t.fastestFinish(), 363);
        order("fastestStop", t, 1, 2, 3, 4, 9, 8, 7, 6, 5);
    }

    private static void fastestAbsent() {
        Check.promise(18);
        DeliveryRound r = Check.round("cart 10; street 0 1 5; house 1 0 0 9 9 9 9 9 9 9; house 1 0 0 1 2 1 1 1 1 1;");
        due("total of the capacity", r.fastestFinish(), 312);
        r.carryOut(FASTEST);
        due("total above the capacity", r.fastestFinish(), ABSENT);
        order("fastestStop", r);
        due("carryOut", r.carryOut(FASTEST), ABSENT);
        due("previewFinish", r.previewFinish(FASTEST), ABSENT);
        r.setOrder(1, 1, 1);
        due("total of the capacity", r.fastestFinish(), 312);
        DeliveryRound s = Check.round("nodes 3; street 0 1 5;" + HOUSE + "house 2 0 0 1 1 1 1 1 1 1;");
        due("a stop out of reach", s.fastestFinish(), ABSENT);
        order("fastestStop", s);
        DeliveryRound t = Check.round("street 0 1 5 gate 0 303;" + HOUSE);
        due("no way home", t.fastestFinish(), ABSENT);
        order("fastestStop", t);
    }

    private static void preview() {
        Check.promise(20);
        DeliveryRound r = Check.round(TOWN);
        due("previewFinish(BY_NUMBER)", r.previewFinish(BY_NUMBER), 341);
        due("previewFinish(BY_HABIT)", r.previewFinish(BY_HABIT), 341);
        due("previewFinish(FASTEST)", r.previewFinish(FASTEST), 341);
        r.setGate(1, 0, 319);
        due("previewFinish(BY_NUMBER)", r.previewFinish(BY_NUMBER), 354);
        due("previewFinish(BY_HABIT)", r.previewFinish(BY_HABIT), 354);
        due("previewFinish(FASTEST)", r.previewFinish(FASTEST), 339);
        due("previewFinish(3)", r.previewFinish(3), INVALID);
        due("previewFinish(-1)", r.previewFinish(-1), INVALID);
        due("day", r.day(), 0);
        due("bottlesOut", r.bottlesOut(), 0);
        due("visitCount", r.visitCount(), 0);
        due("finish", r.finish(), ABSENT);
        due("habit", r.habit(0, 1), 0);
        due("undo", r.undo(), 0);
        DeliveryRound s = Check.round("street 0 1 5 gate 0 303;" + HOUSE);
        due("stranded by number", s.previewFinish(BY_NUMBER), ABSENT);
        due("stranded by habit", s.previewFinish(BY_HABIT), ABSENT);
        due("no fastest order", s.previewFinish(FASTEST), ABSENT);
        due("wrong choice", s.previewFinish(MAX), INVALID);
    }

    private static void ledger() {
        DeliveryRound r = Check.round(TOWN);
        r.carryOut(BY_NUMBER);
        r.carryOut(BY_NUMBER);
        r.carryOut(BY_NUMBER);
        // house 0 keeps 1: 3, then 3 - 2 + 4 = 5, then 5 - 4 + 3 = 4
        Check.promise(21);
        due("bottlesAt(0)", r.bottlesAt(0), 4);
        due("bottlesAt(1)", r.bottlesAt(1), 5);
        due("bottlesAt(2)", r.bottlesAt(2), 2);
        due("bottlesAt(3)", r.bottlesAt(3), INVALID);
        due("bottlesAt(-1)", r.bottlesAt(-1), INVALID);
        Check.promise(22);
        due("delivered(0)", r.delivered(0), 10);
        due("delivered(1)", r.delivered(1), 10);
        due("delivered(2)", r.delivered(2), 5);
        due("delivered(3)", r.delivered(3), INVALID);
        due("delivered(-1)", r.delivered(-1), INVALID);
        Check.promise(23);
        due("returned(0)", r.returned(0), 6);
        due("returned(1)", r.returned(1), 5);
        due("returned(2)", r.returned(2), 3);
        due("returned(3)", r.returned(3), INVALID);
        due("returned(-1)", r.returned(-1), INVALID);
        Check.promise(26);
        due("bottlesOut", r.bottlesOut(), 11);
        Check.promise(24);
        due("broken(0)", r.broken(0), 0);
        r.breakBottles(0, 2);
        r.breakBottles(0, 1);
        due("broken(0)", r.broken(0), 3);
        due("broken(1)", r.broken(1), 0);
        due("broken(3)", r.broken(3), INVALID);
        due("broken(-1)", r.broken(-1), INVALID);
        Check.promise(25);
        due("bill(0)", r.bill(0), 79);
        due("bill(1)", r.bill(1), 70);
        due("bill(3)", r.bill(3), INVALID);
        due("bill(-1)", r.bill(-1), INVALID);
        Check.promise(26);
        due("bottlesOut", r.bottlesOut(), 8);
        DeliveryRound s = Check.round("street 0 1 1; house 1 0 0 9 9 9 9 9 9 9;");
        s.carryOut(BY_NUMBER);
        s.breakBottles(0, 4);
        Check.promise(25);
        due("bill without price", s.bill(0), 85);
    }

    private static void records() {
        DeliveryRound r = Check.round(TOWN);
        Check.promise(27);
        due("finish", r.finish(), ABSENT);
        Check.promise(28);
        due("visitCount", r.visitCount(), 0);
        Check.promise(29);
        due("visitHouse(0)", r.visitHouse(0), INVALID);
        Check.promise(32);
        due("reloads", r.reloads(), 0);
        Check.promise(33);
        due("carryOut", r.carryOut(BY_NUMBER), 3);
        Check.promise(27);
        due("finish", r.finish(), 341);
        Check.promise(28);
        due("visitCount", r.visitCount(), 3);
        Check.promise(29);
        due("visitHouse(0)", r.visitHouse(0), 0);
        due("visitHouse(1)", r.visitHouse(1), 2);
        due("visitHouse(2)", r.visitHouse(2), 1);
        due("visitHouse(3)", r.visitHouse(3), INVALID);
        due("visitHouse(-1)", r.visitHouse(-1), INVALID);
        Check.promise(30);
        due("visitMinute(0)", r.visitMinute(0), 315);
        due("visitMinute(1)", r.visitMinute(1), 318);
        due("visitMinute(2)", r.visitMinute(2), 326);
        due("visitMinute(3)", r.visitMinute(3), INVALID);
        due("visitMinute(-1)", r.visitMinute(-1), INVALID);
        r.carryOut(BY_NUMBER);
        Check.promise(31);
        due("visitReturned(0)", r.visitReturned(0), 2);
        due("visitReturned(1)", r.visitReturned(1), 2);
        due("visitReturned(2)", r.visitReturned(2), INVALID);
        due("visitReturned(-1)", r.visitReturned(-1), INVALID);
        Check.promise(28);
        due("visitCount", r.visitCount(), 2);
        Check.promise(29);
        due("visitHouse(2)", r.visitHouse(2), INVALID);
        Check.promise(27);
        due("finish", r.finish(), 328);
    }

    private static void returnsAndRoom() {
        Check.promise(31);
        // The cart holds 10. Day 0: 9 to house 0. Day 1: house 1 has the cart full of 9 and takes none there.
        DeliveryRound r = Check.round("nodes 3; cart 10; street 0 1 1; street 1 2 1;"
                + "house 1 0 0 9 1 0 0 0 0 0; house 2 0 0 0 8 0 0 0 0 0;");
        r.carryOut(BY_NUMBER);
        r.carryOut(BY_NUMBER);
        // after the delivery of 1 the cart has 8 full bottles and room for 2 of the 9
        due("visitReturned(0)", r.visitReturned(0), 2);
        due("visitReturned(1)", r.visitReturned(1), 0);
        due("bottlesAt(0)", r.bottlesAt(0), 8);
        due("bottlesAt(1)", r.bottlesAt(1), 8);
        // fewer bottles than the house keeps: none is taken back
        r.setKeep(0, 9);
        r.setOrder(0, 2, 1);
        r.carryOut(BY_NUMBER);
        due("visitReturned(0)", r.visitReturned(0), 0);
        due("bottlesAt(0)", r.bottlesAt(0), 9);
        // what is delivered on the same visit is not counted for the keep
        r.setKeep(0, 8);
        r.setOrder(0, 3, 5);
        r.carryOut(BY_NUMBER);
        due("visitReturned(0)", r.visitReturned(0), 1);
        due("bottlesAt(0)", r.bottlesAt(0), 13);
    }

    private static void roomIsShared() {
        DeliveryRound r = Check.round("cart 10; street 0 1 5; house 1 0 9 3 3 3 3 3 3 3; house 1 0 9 3 3 3 3 3 3 3;");
        r.carryOut(BY_NUMBER);
        r.carryOut(BY_NUMBER);
        r.setKeep(0, 0);
        r.setKeep(1, 0);
        r.carryOut(BY_NUMBER);
        // 3 full and room for 7; then none full, 6 empty and room for 4
        due("visitReturned(0)", r.visitReturned(0), 6);
        due("visitReturned(1)", r.visitReturned(1), 4);
        due("bottlesAt(1)", r.bottlesAt(1), 5);
        // the next round starts without empty bottles
        r.setSkipped(0, true);
        r.carryOut(BY_NUMBER);
        due("visitReturned(0)", r.visitReturned(0), 5);
        due("returned(1)", r.returned(1), 9);
    }

    private static void reload() {
        Check.promise(32);
        DeliveryRound r = Check.round("nodes 3; cart 10; start 100; street 0 1 7; street 1 2 4;"
                + "house 1 0 0 6 6 6 6 6 6 6; house 2 1 0 5 5 5 5 5 5 5; house 1 2 0 6 6 6 6 6 6 6;");
        // 10 full; house 0: 107, 108, 4 left; home 115, 125 with 10 of 11; back 132; house 2: 137, 4 left;
        // node 2: 141; home 152, 162; back 173; house 1: 176; home 187
        due("carryOut", r.carryOut(BY_NUMBER), 3);
        due("reloads", r.reloads(), 2);
        due("visitMinute(0)", r.visitMinute(0), 108);
        due("visitHouse(1)", r.visitHouse(1), 2);
        due("visitMinute(1)", r.visitMinute(1), 137);
        due("visitMinute(2)", r.visitMinute(2), 176);
        due("finish", r.finish(), 187);
        due("habit(0, 1)", r.habit(0, 1), 1);
        due("habit(1, 0)", r.habit(1, 0), 0);
        due("habit(1, 2)", r.habit(1, 2), 1);
        due("habit(2, 0)", r.habit(2, 0), 1);
        // Day 1: house 0 gives 6 (4 full after the delivery, room for 6); at the depot they are unloaded;
        // house 2 gives 6 again; at the depot 5 are loaded; house 1 gives all of its 5.
        due("carryOut", r.carryOut(BY_NUMBER), 3);
        due("visitReturned(0)", r.visitReturned(0), 6);
        due("visitReturned(1)", r.visitReturned(1), 6);
        due("visitReturned(2)", r.visitReturned(2), 5);
        due("reloads", r.reloads(), 2);
        due("previewFinish", r.previewFinish(BY_NUMBER), 187);
        r.setSkipped(0, true);
        r.setSkipped(2, true);
        r.carryOut(BY_NUMBER);
        due("reloads", r.reloads(), 0);
    }

    private static void reloadWithoutWayToDepot() {
        Check.promise(33);
        DeliveryRound r = Check.round("nodes 3; cart 10; start 100; street 0 1 7 gate 0 105; street 1 2 4;"
                + "house 1 0 0 6 6 6 6 6 6 6; house 2 1 0 2 2 2 2 2 2 2; house 1 2 0 6 6 6 6 6 6 6;");
        due("previewFinish", r.previewFinish(BY_NUMBER), ABSENT);
        // House 2 wants 6 of the 4 that are left, and the gate has been shut: all ends at node 1.
        due("carryOut", r.carryOut(BY_NUMBER), 1);
        due("finish", r.finish(), ABSENT);
        due("reloads", r.reloads(), 0);
        due("visitHouse(0)", r.visitHouse(0), 0);
        due("bottlesAt(1)", r.bottlesAt(1), 0);
        due("bottlesAt(2)", r.bottlesAt(2), 0);
        due("habit(0, 1)", r.habit(0, 1), 1);
        due("habit(1, 0)", r.habit(1, 0), 0);
        due("day", r.day(), 1);
    }

    private static void reloadWithoutWayBack() {
        DeliveryRound r = Check.round("nodes 3; cart 10; start 100; street 0 1 7 gate 0 116; street 0 2 4;"
                + "house 1 0 0 6 6 6 6 6 6 6; house 2 1 0 2 2 2 2 2 2 2; house 1 2 0 6 6 6 6 6 6 6;");
        due("previewFinish", r.previewFinish(BY_NUMBER), 125);
        // 107, 108, home at 115, loaded at 125; the gate is shut at 116: the round ends at the depot.
        due("carryOut", r.carryOut(BY_NUMBER), 1);
        due("finish", r.finish(), 125);
        due("reloads", r.reloads(), 1);
        due("bottlesAt(0)", r.bottlesAt(0), 6);
        due("bottlesAt(1)", r.bottlesAt(1), 0);
        due("habit(0, 1)", r.habit(0, 1), 1);
        due("habit(1, 0)", r.habit(1, 0), 1);
        due("habit(0, 2)", r.habit(0, 2), 0);
    }

    private static void leftOutStops() {
        // Node 2 is out of reach. Its 9 bottles are in the first load, but not in that of the reload:
        // then house 2 has room in the cart for all of its empty bottles.
        DeliveryRound r = Check.round("nodes 4; cart 20; street 0 1 5; street 1 3 5;"
                + "house 1 0 0 9 9 9 9 9 9 9; house 2 0 0 9 9 9 9 9 9 9; house 3 0 0 9 9 9 9 9 9 9;"
                + "house 3 0 0 9 9 9 9 9 9 9;");
        due("carryOut", r.carryOut(BY_NUMBER), 3);
        due("bottlesAt(1)", r.bottlesAt(1), 0);
        due("bottlesAt(2)", r.bottlesAt(2), 9);
        due("reloads", r.reloads(), 1);
        // 305, 306; 311, 312; 2 full are left: 322, 332; 342, 343; home 353
        due("visitMinute(0)", r.visitMinute(0), 306);
        due("visitMinute(1)", r.visitMinute(1), 312);
        due("visitMinute(2)", r.visitMinute(2), 343);
        due("finish", r.finish(), 353);
        due("carryOut", r.carryOut(BY_NUMBER), 3);
        // after house 3's delivery the cart has none full: room for all 9
        due("visitReturned(2)", r.visitReturned(2), 9);
        // House 0 is left out first: the reload is for house 2's 4 bottles alone, and there is room for 8.
        DeliveryRound q = Check.round("nodes 3; cart 10; street 0 2 5; house 1 0 9 9 9 9 9 9 9 9;"
                + "house 2 0 9 9 9 9 9 9 9 9; house 2 0 9 4 4 4 4 4 4 4;");
        q.carryOut(BY_NUMBER);
        q.carryOut(BY_NUMBER);
        q.setKeep(2, 0);
        due("carryOut", q.carryOut(BY_NUMBER), 2);
        due("visitReturned(0)", q.visitReturned(0), 9);
        due("visitReturned(1)", q.visitReturned(1), 8);
        due("bottlesAt(2)", q.bottlesAt(2), 4);
        // A stop that is left out only later still counts at the reload.
        DeliveryRound s = Check.round("nodes 4; cart 10; street 0 1 5; "
                + "house 1 0 0 9 9 9 9 9 9 9; house 1 0 0 4 4 4 4 4 4 4; house 2 0 0 9 9 9 9 9 9 9;");
        s.carryOut(BY_NUMBER);
        due("finish", s.finish(), 300 + 5 + 1 + 5 + 10 + 5 + 1 + 5);
        s.carryOut(BY_NUMBER);
        // 10 loaded (4 + 9 are open), 4 delivered, 6 full: room for 4 of 4
        due("visitReturned(1)", s.visitReturned(1), 4);
        s.setOrder(1, 2, 3);
        s.carryOut(BY_NUMBER);
        // 10 loaded (3 + 9 are open), 3 delivered, 7 full: room for 3 of 4
        due("visitReturned(1)", s.visitReturned(1), 3);
        due("bottlesAt(1)", s.bottlesAt(1), 4);
    }

    private static void carryOut() {
        Check.promise(33);
        DeliveryRound r = Check.round(TOWN);
        due("carryOut(3)", r.carryOut(3), INVALID);
        due("carryOut(-1)", r.carryOut(-1), INVALID);
        due("day", r.day(), 0);
        due("undo", r.undo(), ABSENT);
        r.setSkipped(2, true);
        due("carryOut(BY_HABIT)", r.carryOut(BY_HABIT), 2);
        due("day", r.day(), 1);
        due("demand(2)", r.demand(2), 1);
        due("bottlesAt(2)", r.bottlesAt(2), 0);
        due("setSkipped(2, false)", r.setSkipped(2, false), false);
        due("carryOut(FASTEST)", r.carryOut(FASTEST), 2);
        due("carryOut(BY_NUMBER)", r.carryOut(BY_NUMBER), 3);
        due("day", r.day(), 3);
        // no fastest order: nothing changes
        DeliveryRound s = Check.round("nodes 3; street 0 1 5;" + HOUSE + "house 2 0 0 1 1 1 1 1 1 1;");
        s.setSkipped(1, true);
        due("carryOut(FASTEST)", s.carryOut(FASTEST), 1);
        due("carryOut(FASTEST)", s.carryOut(FASTEST), ABSENT);
        due("carryOut(MAX)", s.carryOut(MAX), INVALID);
        due("day", s.day(), 1);
        due("finish", s.finish(), 311);
        due("visitCount", s.visitCount(), 1);
        due("undo", s.undo(), 1);
        // the three choices in their orders
        String town = "nodes 4; street 0 1 30; street 0 2 20; street 0 3 10; street 1 3 2; street 1 2 1;"
                + "house 1 0 0 1 1 1 1 1 1 1; house 2 0 0 1 1 1 1 1 1 1; house 3 0 0 1 1 1 1 1 1 1;";
        int[][] orders = {{0, 1, 2}, {2, 0, 1}, {0, 1, 2}};
        for (int choice = 0; choice < 3; choice++) {
            DeliveryRound t = Check.round(town);
            due("carryOut", t.carryOut(choice), 3);
            if (choice < 2) {
                for (int k = 0; k < 3; k++) {
                    due("visitHouse(" + k + ") of choice " + choice, t.visitHouse(k), orders[choice][k]);
                }
            } else {
                due("finish of the fastest", t.finish(), 329);
            }
        }
    }

    private static void setSkipped() {
        Check.promise(34);
        DeliveryRound r = Check.round(TOWN);
        due("setSkipped(0, false)", r.setSkipped(0, false), false);
        due("undo", r.undo(), ABSENT);
        due("setSkipped(0, true)", r.setSkipped(0, true), true);
        due("setSkipped(0, true)", r.setSkipped(0, true), false);
        due("demand(0)", r.demand(0), 0);
        due("demand(2)", r.demand(2), 2);
        due("order(0, 0)", r.order(0, 0), 3);
        due("setSkipped(0, false)", r.setSkipped(0, false), true);
        due("demand(0)", r.demand(0), 3);
        due("setSkipped(3, true)", r.setSkipped(3, true), false);
        due("setSkipped(-1, true)", r.setSkipped(-1, true), false);
        due("setSkipped(32, true)", r.setSkipped(32, true), false);
        due("undo", r.undo(), 1);
        due("demand(0)", r.demand(0), 0);
        due("undo", r.undo(), 0);
        due("demand(0)", r.demand(0), 3);
    }

    private static void breakBottles() {
        Check.promise(35);
        DeliveryRound r = Check.round(TOWN);
        due("breakBottles(0, 1)", r.breakBottles(0, 1), INVALID);
        r.carryOut(BY_NUMBER);
        due("breakBottles(1, 0)", r.breakBottles(1, 0), INVALID);
        due("breakBottles(1, -1)", r.breakBottles(1, -1), INVALID);
        due("breakBottles(1, 6)", r.breakBottles(1, 6), INVALID);
        due("breakBottles(3, 1)", r.breakBottles(3, 1), INVALID);
        due("breakBottles(-1, 1)", r.breakBottles(-1, 1), INVALID);
        due("bottlesAt(1)", r.bottlesAt(1), 5);
        due("breakBottles(1, 2)", r.breakBottles(1, 2), 3);
        due("breakBottles(1, 3)", r.breakBottles(1, 3), 0);
        due("bottlesAt(1)", r.bottlesAt(1), 0);
        due("broken(1)", r.broken(1), 5);
        due("delivered(1)", r.delivered(1), 5);
        due("returned(1)", r.returned(1), 0);
        due("undo", r.undo(), 2);
        due("bottlesAt(1)", r.bottlesAt(1), 3);
        due("broken(1)", r.broken(1), 2);
    }

    private static void setOrder() {
        Check.promise(36);
        DeliveryRound r = Check.round(TOWN);
        due("setOrder(0, 0, 9)", r.setOrder(0, 0, 9), 3);
        due("setOrder(0, 0, 0)", r.setOrder(0, 0, 0), 9);
        due("setOrder(0, 6, 5)", r.setOrder(0, 6, 5), 3);
        due("order(0, 6)", r.order(0, 6), 5);
        due("order(1, 0)", r.order(1, 0), 5);
        due("demand(0)", r.demand(0), 0);
        due("setOrder(0, 0, 10)", r.setOrder(0, 0, 10), INVALID);
        due("setOrder(0, 0, -1)", r.setOrder(0, 0, -1), INVALID);
        due("setOrder(0, 7, 1)", r.setOrder(0, 7, 1), INVALID);
        due("setOrder(0, -1, 1)", r.setOrder(0, -1, 1), INVALID);
        due("setOrder(3, 0, 1)", r.setOrder(3, 0, 1), INVALID);
        due("setOrder(-1, 0, 1)", r.setOrder(-1, 0, 1), INVALID);
        due("setOrder, the same", r.setOrder(0, 6, 5), 5);
        due("undo", r.undo(), 3);
        due("order(0, 6)", r.order(0, 6), 5);
        due("undo", r.undo(), 2);
        due("order(0, 6)", r.order(0, 6), 3);
    }

    private static void setKeep() {
        Check.promise(37);
        DeliveryRound r = Check.round(TOWN);
        due("setKeep(0, 9)", r.setKeep(0, 9), 1);
        due("setKeep(0, 0)", r.setKeep(0, 0), 9);
        due("setKeep(0, 10)", r.setKeep(0, 10), INVALID);
        due("setKeep(0, -1)", r.setKeep(0, -1), INVALID);
        due("setKeep(3, 1)", r.setKeep(3, 1), INVALID);
        due("setKeep(-1, 1)", r.setKeep(-1, 1), INVALID);
        due("setKeep(2, 4)", r.setKeep(2, 4), 0);
        due("setKeep, the same", r.setKeep(2, 4), 4);
        due("undo", r.undo(), 3);
        due("undo", r.undo(), 2);
        due("setKeep(2, 1)", r.setKeep(2, 1), 0);
        r.carryOut(BY_NUMBER);
        r.carryOut(BY_NUMBER);
        due("returned(0)", r.returned(0), 3);
        due("returned(2)", r.returned(2), 1);
    }

    private static void setGate() {
        Check.promise(38);
        DeliveryRound r = Check.round(TOWN);
        due("setGate(3, 0, 1)", r.setGate(3, 0, 1), false);
        due("setGate(-1, 0, 1)", r.setGate(-1, 0, 1), false);
        due("setGate(0, -1, 1)", r.setGate(0, -1, 1), false);
        due("setGate(0, 5, 5)", r.setGate(0, 5, 5), false);
        due("setGate(0, 5, 4)", r.setGate(0, 5, 4), false);
        due("setGate(0, 0, 1441)", r.setGate(0, 0, 1441), false);
        due("setGate(0, 1440, 1441)", r.setGate(0, 1440, 1441), false);
        due("undo", r.undo(), ABSENT);
        due("isOpen(0, 1439)", r.isOpen(0, 1439), 1);
        due("setGate(0, 1439, 1440)", r.setGate(0, 1439, 1440), true);
        due("isOpen(0, 1438)", r.isOpen(0, 1438), 0);
        due("isOpen(0, 1439)", r.isOpen(0, 1439), 1);
        due("setGate(0, 0, 1)", r.setGate(0, 0, 1), true);
        due("isOpen(0, 0)", r.isOpen(0, 0), 1);
        due("isOpen(0, 1)", r.isOpen(0, 1), 0);
        due("setGate(1, 10, 20)", r.setGate(1, 10, 20), true);
        due("isOpen(1, 320)", r.isOpen(1, 320), 0);
        due("arrival(1, 2, 5)", r.arrival(1, 2, 5), 15);
        due("setGate, the same", r.setGate(1, 10, 20), true);
        due("undo", r.undo(), 3);
        due("undo", r.undo(), 2);
        due("isOpen(1, 320)", r.isOpen(1, 320), 1);
        due("undo", r.undo(), 1);
        due("undo", r.undo(), 0);
        due("isOpen(0, 700)", r.isOpen(0, 700), 1);
    }

    private static void undo() {
        Check.promise(39);
        DeliveryRound r = Check.round(TOWN);
        r.carryOut(BY_NUMBER);
        r.setSkipped(0, true);
        r.carryOut(BY_NUMBER);
        due("visitCount", r.visitCount(), 1);
        due("undo", r.undo(), 2);
        due("day", r.day(), 1);
        due("demand(0)", r.demand(0), 0);
        due("visitCount", r.visitCount(), 3);
        due("finish", r.finish(), 341);
        due("visitMinute(2)", r.visitMinute(2), 326);
        due("habit(0, 1)", r.habit(0, 1), 1);
        due("delivered(2)", r.delivered(2), 2);
        due("returned(2)", r.returned(2), 0);
        due("undo", r.undo(), 1);
        due("demand(0)", r.demand(0), 4);
        due("setKeep", r.setKeep(0, 5), 1);
        due("undo", r.undo(), 1);
        due("undo", r.undo(), 0);
        due("day", r.day(), 0);
        due("bottlesOut", r.bottlesOut(), 0);
        due("visitCount", r.visitCount(), 0);
        due("finish", r.finish(), ABSENT);
        due("habit(0, 1)", r.habit(0, 1), 0);
        due("undo", r.undo(), ABSENT);
        due("undo", r.undo(), ABSENT);
    }

    private static void undoLimit() {
        DeliveryRound r = Check.round(TOWN);
        for (int i = 0; i < 20; i++) {
            r.setOrder(0, 0, i % 10);
        }
        for (int left = 11; left >= 0; left--) {
            due("undo", r.undo(), left);
            due("order(0, 0)", r.order(0, 0), (left + 7) % 10);
        }
        due("undo", r.undo(), ABSENT);
        due("order(0, 0)", r.order(0, 0), 7);
        for (int i = 0; i < 5; i++) {
            r.setOrder(0, 0, i);
        }
        due("undo", r.undo(), 4);
        due("order(0, 0)", r.order(0, 0), 3);
    }

    private static void snapshots() {
        Check.promise(40);
        DeliveryRound r = Check.round(TOWN);
        due("saveSnapshot(2)", r.saveSnapshot(2), false);
        due("saveSnapshot(-1)", r.saveSnapshot(-1), false);
        due("restoreSnapshot(0)", r.restoreSnapshot(0), false);
        r.carryOut(BY_NUMBER);
        r.setSkipped(0, true);
        r.setKeep(2, 2);
        r.setOrder(1, 1, 6);
        r.setGate(0, 0, 1000);
        r.breakBottles(1, 1);
        due("saveSnapshot(0)", r.saveSnapshot(0), true);
        due("undo", r.undo(), 5);
        due("saveSnapshot(1)", r.saveSnapshot(1), true);
        r.setGate(0, 0, 500);
        r.setKeep(2, 8);
        r.carryOut(BY_NUMBER);
        Check.promise(41);
        due("restoreSnapshot(2)", r.restoreSnapshot(2), false);
        due("restoreSnapshot(-1)", r.restoreSnapshot(-1), false);
        due("visitCount", r.visitCount(), 2);
        for (int times = 0; times < 2; times++) {
            r.setOrder(1, 2, 0);
            r.fastestFinish();
            due("restoreSnapshot(0)", r.restoreSnapshot(0), true);
            // houses 1 and 2 are left: 310, 313; through the gate at 320, 325, 326, 331, 341
            due("fastestFinish", r.fastestFinish(), 341);
            due("undo", r.undo(), ABSENT);
            due("day", r.day(), 1);
            due("demand(0)", r.demand(0), 0);
            due("order(1, 1)", r.order(1, 1), 6);
            due("isOpen(0, 999)", r.isOpen(0, 999), 1);
            due("isOpen(0, 1000)", r.isOpen(0, 1000), 0);
            due("broken(1)", r.broken(1), 1);
            due("bottlesAt(1)", r.bottlesAt(1), 4);
            due("habit(0, 1)", r.habit(0, 1), 1);
            due("habit(1, 2)", r.habit(1, 2), 1);
            due("visitCount", r.visitCount(), 3);
            due("finish", r.finish(), 341);
            due("setKeep(2, 0)", r.setKeep(2, 0), 2);
            r.carryOut(BY_NUMBER);
            r.carryOut(BY_NUMBER);
            r.setSkipped(1, true);
        }
        due("restoreSnapshot(1)", r.restoreSnapshot(1), true);
        due("broken(1)", r.broken(1), 0);
        due("bottlesAt(1)", r.bottlesAt(1), 5);
        Check.promise(40);
        r.setOrder(1, 1, 2);
        due("saveSnapshot(1)", r.saveSnapshot(1), true);
        due("undo", r.undo(), 0);
        due("order(1, 1)", r.order(1, 1), 6);
        due("restoreSnapshot(1)", r.restoreSnapshot(1), true);
        due("order(1, 1)", r.order(1, 1), 2);
    }
}
