import java.util.Arrays;

/**
 * A planner and ledger for a delivery round: a cart, returnable bottles and streets with gates.
 * Every row is made in a constructor and used again, so that no call makes an object.
 */
public final class DeliveryRound {
    public static final int INVALID = -1;
    public static final int ABSENT = -2;
    public static final int BY_NUMBER = 0, BY_HABIT = 1, FASTEST = 2;

    private static final int MAX_BYTES = 900;
    private static final int BYTES_PER_APPEND = 20;
    private static final int MAX_NODES = 10;
    private static final int MAX_STREETS = 18;
    private static final int MAX_HOUSES = 12;
    private static final int MAX_ORDER = 9;
    private static final int MAX_KEEP = 9;
    private static final int MAX_CAPACITY = 200;
    private static final int WEEKDAYS = 7;
    private static final int LAST_MINUTE = 1439;
    private static final int DAY_END = 1440;
    private static final int LAST_DEPARTURE = 9999;
    private static final int RELOAD_MINUTES = 10;
    private static final int UNDO_LIMIT = 12;
    private static final int SLOTS = 2;
    private static final int DEPOT = 0;
    // A gate's end is at least 1, so 0 is free to say that there is no gate.
    private static final int NO_GATE = 0;
    // Written out: of Integer, LANGUAGE.md lists the functions alone.
    private static final int NEVER = 0x7fffffff;
    private static final int TOO_LATE = -1;

    private final Text text;
    private final Parser parser;
    private final Plan plan;
    private final State state;
    private final Today today;
    private final Network network;
    private final Route route;
    private final Fastest fastest;
    private final Cart cart;
    private final History history;
    private final State[] slots;
    private final boolean[] slotFilled;

    public DeliveryRound() {
        text = new Text();
        parser = new Parser(text);
        plan = new Plan();
        state = new State();
        today = new Today(plan, state);
        network = new Network(plan, state);
        route = new Route();
        fastest = new Fastest(plan, today, network);
        cart = new Cart(plan, state, today, network);
        history = new History();
        slots = new State[SLOTS];
        for (int slot = 0; slot < SLOTS; slot++) {
            slots[slot] = new State();
        }
        slotFilled = new boolean[SLOTS];
    }

    // ---- the text

    public int append(int a, int b, int c, int d, int e) {
        if (text.count + BYTES_PER_APPEND > MAX_BYTES) {
            return INVALID;
        }
        text.addFour(a);
        text.addFour(b);
        text.addFour(c);
        text.addFour(d);
        text.addFour(e);
        return text.count;
    }

    public int parse(int length) {
        if (length < 0 || length > text.count) {
            return INVALID;
        }
        parser.readRound(length);
        text.count = 0;
        if (parser.error != Parser.NO_ERROR) {
            return -2 - parser.error;
        }
        plan.copyFrom(parser.plan);
        state.copyFrom(parser.state);
        history.clear();
        emptySlots();
        fastest.forget();
        return plan.houseCount;
    }

    public int nodeCount() {
        return plan.nodeCount;
    }

    public int streetCount() {
        return plan.streetCount;
    }

    public int houseCount() {
        return plan.houseCount;
    }

    public int capacity() {
        return plan.capacity;
    }

    public int day() {
        return state.day;
    }

    public int houseNode(int house) {
        return isHouse(house) ? plan.houseNode[house] : INVALID;
    }

    public int order(int house, int weekday) {
        return isHouse(house) && isWeekday(weekday) ? state.orders[house * WEEKDAYS + weekday] : INVALID;
    }

    // ---- the network

    public int isOpen(int street, int minute) {
        if (!isStreet(street) || minute < 0) {
            return INVALID;
        }
        int gateTo = state.gateTo[street];
        boolean open = gateTo == NO_GATE || minute >= state.gateFrom[street] && minute < gateTo;
        return open ? 1 : 0;
    }

    public int arrival(int from, int to, int minute) {
        if (!isNode(from) || !isNode(to) || minute < 0 || minute > LAST_DEPARTURE) {
            return INVALID;
        }
        int arrived = network.arrivalsFrom(from, minute)[to];
        return arrived == NEVER ? ABSENT : arrived;
    }

    // ---- today

    public int demand(int house) {
        return isHouse(house) ? today.demandOf(house) : INVALID;
    }

    public int totalDemand() {
        return today.sumOfDemands();
    }

    public int stops() {
        return today.stopSet();
    }

    public int habit(int from, int to) {
        return isNode(from) && isNode(to) ? state.habits[from * MAX_NODES + to] : INVALID;
    }

    public int horseStop(int position) {
        if (position < 0) {
            return INVALID;
        }
        chooseByHabit();
        return route.stopAt(position);
    }

    public int fastestFinish() {
        fastest.find();
        return fastest.finish == NEVER ? ABSENT : fastest.finish;
    }

    public int fastestStop(int position) {
        if (position < 0) {
            return INVALID;
        }
        fastest.find();
        return fastest.route.stopAt(position);
    }

    public int previewFinish(int choice) {
        if (!isChoice(choice)) {
            return INVALID;
        }
        if (!chooseRoute(choice)) {
            return ABSENT;
        }
        cart.travel(route);
        return cart.log.finish;
    }

    // ---- bottles and accounts

    public int bottlesAt(int house) {
        return isHouse(house) ? state.bottles[house] : INVALID;
    }

    public int delivered(int house) {
        return isHouse(house) ? state.delivered[house] : INVALID;
    }

    public int returned(int house) {
        return isHouse(house) ? state.returned[house] : INVALID;
    }

    public int broken(int house) {
        return isHouse(house) ? state.broken[house] : INVALID;
    }

    public int bill(int house) {
        if (!isHouse(house)) {
            return INVALID;
        }
        return state.delivered[house] * plan.price + state.broken[house] * plan.deposit;
    }

    public int bottlesOut() {
        int sum = 0;
        for (int house = 0; house < plan.houseCount; house++) {
            sum += state.bottles[house];
        }
        return sum;
    }

    // ---- records of the latest round

    public int finish() {
        return state.log.finish;
    }

    public int visitCount() {
        return state.log.visits;
    }

    public int visitHouse(int visit) {
        return isVisit(visit) ? state.log.house[visit] : INVALID;
    }

    public int visitMinute(int visit) {
        return isVisit(visit) ? state.log.minute[visit] : INVALID;
    }

    public int visitReturned(int visit) {
        return isVisit(visit) ? state.log.returned[visit] : INVALID;
    }

    public int reloads() {
        return state.log.reloads;
    }

    // ---- changes

    public int carryOut(int choice) {
        if (!isChoice(choice)) {
            return INVALID;
        }
        if (!chooseRoute(choice)) {
            return ABSENT;
        }
        cart.travel(route);
        beginChange();
        settleAccounts(cart.log);
        learnHabits(cart.log);
        state.log.copyFrom(cart.log);
        state.day++;
        state.skipped = 0;
        return state.log.visits;
    }

    public boolean setSkipped(int house, boolean skip) {
        if (!isHouse(house) || state.isSkipped(house) == skip) {
            return false;
        }
        beginChange();
        state.skipped ^= 1 << house;
        return true;
    }

    public int breakBottles(int house, int count) {
        if (!isHouse(house) || count < 1 || count > state.bottles[house]) {
            return INVALID;
        }
        beginChange();
        state.bottles[house] -= count;
        state.broken[house] += count;
        return state.bottles[house];
    }

    public int setOrder(int house, int weekday, int order) {
        if (!isHouse(house) || !isWeekday(weekday) || order < 0 || order > MAX_ORDER) {
            return INVALID;
        }
        beginChange();
        int place = house * WEEKDAYS + weekday;
        int previous = state.orders[place];
        state.orders[place] = order;
        return previous;
    }

    public int setKeep(int house, int keep) {
        if (!isHouse(house) || keep < 0 || keep > MAX_KEEP) {
            return INVALID;
        }
        beginChange();
        int previous = state.keep[house];
        state.keep[house] = keep;
        return previous;
    }

    public boolean setGate(int street, int from, int to) {
        if (!isStreet(street) || from < 0 || from > LAST_MINUTE || to <= from || to > DAY_END) {
            return false;
        }
        beginChange();
        state.gateFrom[street] = from;
        state.gateTo[street] = to;
        return true;
    }

    public int undo() {
        if (history.count == 0) {
            return ABSENT;
        }
        history.recall(state);
        fastest.forget();
        return history.count;
    }

    public boolean saveSnapshot(int slot) {
        if (!isSlot(slot)) {
            return false;
        }
        slots[slot].copyFrom(state);
        slotFilled[slot] = true;
        return true;
    }

    public boolean restoreSnapshot(int slot) {
        if (!isSlot(slot) || !slotFilled[slot]) {
            return false;
        }
        state.copyFrom(slots[slot]);
        history.clear();
        fastest.forget();
        return true;
    }

    // ---- what the face rests on

    private boolean isHouse(int house) {
        return house >= 0 && house < plan.houseCount;
    }

    private boolean isStreet(int street) {
        return street >= 0 && street < plan.streetCount;
    }

    private boolean isNode(int node) {
        return node >= 0 && node < plan.nodeCount;
    }

    private boolean isVisit(int visit) {
        return visit >= 0 && visit < state.log.visits;
    }

    private static boolean isWeekday(int weekday) {
        return weekday >= 0 && weekday < WEEKDAYS;
    }

    private static boolean isChoice(int choice) {
        return choice == BY_NUMBER || choice == BY_HABIT || choice == FASTEST;
    }

    private static boolean isSlot(int slot) {
        return slot >= 0 && slot < SLOTS;
    }

    private void emptySlots() {
        for (int slot = 0; slot < SLOTS; slot++) {
            slotFilled[slot] = false;
        }
    }

    private void beginChange() {
        history.remember(state);
        fastest.forget();
    }

    /** Fills the route; false if the choice has no route today. */
    private boolean chooseRoute(int choice) {
        if (choice == FASTEST) {
            fastest.find();
            route.copyFrom(fastest.route);
            return fastest.finish != NEVER;
        }
        if (choice == BY_HABIT) {
            chooseByHabit();
        } else {
            route.fillByNumber(today.stopSet());
        }
        return true;
    }

    private void chooseByHabit() {
        route.clear();
        int left = today.stopSet();
        int node = DEPOT;
        for (int step = 0; step < MAX_NODES && left != 0; step++) {
            node = horseChoice(node, left);
            route.add(node);
            left &= ~(1 << node);
        }
    }

    private int horseChoice(int from, int left) {
        int[] arrivals = network.arrivalsFrom(from, plan.start);
        int best = DEPOT;
        for (int node = 1; node < plan.nodeCount; node++) {
            if ((left & 1 << node) == 0) {
                continue;
            }
            int more = state.habits[from * MAX_NODES + node] - state.habits[from * MAX_NODES + best];
            if (best == DEPOT || more > 0 || more == 0 && arrivals[node] < arrivals[best]) {
                best = node;
            }
        }
        return best;
    }

    private void settleAccounts(Log log) {
        for (int visit = 0; visit < log.visits; visit++) {
            int house = log.house[visit];
            int brought = today.demandOf(house);
            state.bottles[house] += brought - log.returned[visit];
            state.delivered[house] += brought;
            state.returned[house] += log.returned[visit];
        }
    }

    private void learnHabits(Log log) {
        int last = DEPOT;
        for (int visit = 0; visit < log.visits; visit++) {
            int node = plan.houseNode[log.house[visit]];
            if (node != last) {
                state.habits[last * MAX_NODES + node]++;
                last = node;
            }
        }
        if (last != DEPOT && log.finish != ABSENT) {
            state.habits[last * MAX_NODES + DEPOT]++;
        }
    }

    /** What a text settles for good; what may change later is in State. */
    private static final class Plan {
        int nodeCount;
        int streetCount;
        int houseCount;
        int capacity;
        int start;
        int price;
        int deposit;
        final int[] streetA = new int[MAX_STREETS];
        final int[] streetB = new int[MAX_STREETS];
        final int[] streetLength = new int[MAX_STREETS];
        final int[] houseNode = new int[MAX_HOUSES];
        final int[] houseWalk = new int[MAX_HOUSES];

        Plan() {
            clear();
        }

        void clear() {
            nodeCount = 2;
            streetCount = 0;
            houseCount = 0;
            capacity = 60;
            start = 300;
            price = 5;
            deposit = 10;
        }

        void copyFrom(Plan other) {
            nodeCount = other.nodeCount;
            streetCount = other.streetCount;
            houseCount = other.houseCount;
            capacity = other.capacity;
            start = other.start;
            price = other.price;
            deposit = other.deposit;
            System.arraycopy(other.streetA, 0, streetA, 0, MAX_STREETS);
            System.arraycopy(other.streetB, 0, streetB, 0, MAX_STREETS);
            System.arraycopy(other.streetLength, 0, streetLength, 0, MAX_STREETS);
            System.arraycopy(other.houseNode, 0, houseNode, 0, MAX_HOUSES);
            System.arraycopy(other.houseWalk, 0, houseWalk, 0, MAX_HOUSES);
        }

        boolean joins(int a, int b) {
            for (int street = 0; street < streetCount; street++) {
                boolean same = streetA[street] == a && streetB[street] == b;
                boolean turned = streetA[street] == b && streetB[street] == a;
                if (same || turned) {
                    return true;
                }
            }
            return false;
        }
    }

    /** The records of one round. */
    private static final class Log {
        int finish;
        int visits;
        int reloads;
        final int[] house = new int[MAX_HOUSES];
        final int[] minute = new int[MAX_HOUSES];
        final int[] returned = new int[MAX_HOUSES];

        Log() {
            clear();
        }

        void clear() {
            finish = ABSENT;
            visits = 0;
            reloads = 0;
        }

        void add(int visitedHouse, int endMinute, int takenBack) {
            if (visits < MAX_HOUSES) {
                house[visits] = visitedHouse;
                minute[visits] = endMinute;
                returned[visits] = takenBack;
                visits++;
            }
        }

        void copyFrom(Log other) {
            finish = other.finish;
            visits = other.visits;
            reloads = other.reloads;
            System.arraycopy(other.house, 0, house, 0, MAX_HOUSES);
            System.arraycopy(other.minute, 0, minute, 0, MAX_HOUSES);
            System.arraycopy(other.returned, 0, returned, 0, MAX_HOUSES);
        }
    }

    /** All that a change may change, and so all that undo and snapshots bring back. */
    private static final class State {
        int day;
        int skipped;
        final int[] orders = new int[MAX_HOUSES * WEEKDAYS];
        final int[] keep = new int[MAX_HOUSES];
        final int[] gateFrom = new int[MAX_STREETS];
        final int[] gateTo = new int[MAX_STREETS];
        final int[] bottles = new int[MAX_HOUSES];
        final int[] delivered = new int[MAX_HOUSES];
        final int[] returned = new int[MAX_HOUSES];
        final int[] broken = new int[MAX_HOUSES];
        final int[] habits = new int[MAX_NODES * MAX_NODES];
        final Log log = new Log();

        boolean isSkipped(int house) {
            return (skipped & 1 << house) != 0;
        }

        void copyFrom(State other) {
            day = other.day;
            skipped = other.skipped;
            System.arraycopy(other.orders, 0, orders, 0, MAX_HOUSES * WEEKDAYS);
            System.arraycopy(other.keep, 0, keep, 0, MAX_HOUSES);
            System.arraycopy(other.gateFrom, 0, gateFrom, 0, MAX_STREETS);
            System.arraycopy(other.gateTo, 0, gateTo, 0, MAX_STREETS);
            System.arraycopy(other.bottles, 0, bottles, 0, MAX_HOUSES);
            System.arraycopy(other.delivered, 0, delivered, 0, MAX_HOUSES);
            System.arraycopy(other.returned, 0, returned, 0, MAX_HOUSES);
            System.arraycopy(other.broken, 0, broken, 0, MAX_HOUSES);
            System.arraycopy(other.habits, 0, habits, 0, MAX_NODES * MAX_NODES);
            log.copyFrom(other.log);
        }
    }

    /** The input buffer, and the token of it that is being looked at. */
    private static final class Text {
        static final int END = 0, WORD = 1, NUMBER = 2, SEMICOLON = 3, ILLEGAL = 4, WHITE = 5;
        static final int MAX_LETTERS = 6;
        static final int MAX_DIGITS = 4;

        final byte[] bytes = new byte[MAX_BYTES];
        int count;
        int length;
        int start;
        int end;
        int kind;

        void addFour(int four) {
            for (int shift = 24; shift >= 0 && count < MAX_BYTES; shift -= 8) {
                bytes[count] = (byte) (four >> shift);
                count++;
            }
        }

        void begin(int textLength) {
            length = Math.min(textLength, count);
            end = 0;
            advance();
        }

        void advance() {
            start = end;
            while (start < length && kindOf(bytes[start]) == WHITE) {
                start++;
            }
            end = start;
            if (start >= length) {
                kind = END;
                return;
            }
            kind = kindOf(bytes[start]);
            int longest = kind == WORD ? MAX_LETTERS : kind == NUMBER ? MAX_DIGITS : 1;
            end++;
            while (longest > 1 && end < length && kindOf(bytes[end]) == kind) {
                end++;
            }
            if (end - start > longest) {
                kind = ILLEGAL;
            }
        }

        static int kindOf(byte sign) {
            if (sign == ' ' || sign == '\n') {
                return WHITE;
            }
            if (sign >= 'a' && sign <= 'z') {
                return WORD;
            }
            if (sign >= '0' && sign <= '9') {
                return NUMBER;
            }
            return sign == ';' ? SEMICOLON : ILLEGAL;
        }

        boolean isWord(String word) {
            if (kind != WORD || end - start != word.length()) {
                return false;
            }
            for (int i = 0; i < word.length(); i++) {
                if (bytes[start + i] != word.charAt(i)) {
                    return false;
                }
            }
            return true;
        }

        int value() {
            int number = 0;
            for (int at = start; at < end; at++) {
                number = number * 10 + bytes[at] - '0';
            }
            return number;
        }
    }

    /**
     * Reads a text into a plan and a state of its own, so that an error leaves the current round as it is.
     * Tokens are read in the order of their offsets; so the first error is the one to report.
     */
    private static final class Parser {
        static final int NO_ERROR = 0, SYNTAX = 1, RANGE = 2, REPEATED = 3, TOO_MANY = 4;
        static final int NODES = 1, CART = 2, START = 4, PRICE = 8;

        final Text text;
        final Plan plan = new Plan();
        // Only orders, keeps and gates are ever written here; all else stays as in a new state.
        final State state = new State();
        int seen;
        int error;

        Parser(Text text) {
            this.text = text;
        }

        void readRound(int length) {
            plan.clear();
            seen = 0;
            error = NO_ERROR;
            text.begin(length);
            for (int i = 0; i < MAX_BYTES && error == NO_ERROR && text.kind != Text.END; i++) {
                readStatement();
                readSemicolon();
            }
        }

        void readStatement() {
            if (text.isWord("nodes")) {
                readNodes();
            } else if (text.isWord("cart")) {
                takeOnce(CART);
                plan.capacity = readNumber(10, MAX_CAPACITY);
            } else if (text.isWord("start")) {
                takeOnce(START);
                plan.start = readNumber(0, LAST_MINUTE);
            } else if (text.isWord("price")) {
                takeOnce(PRICE);
                plan.price = readNumber(0, 99);
                plan.deposit = readNumber(0, 99);
            } else if (text.isWord("street")) {
                readStreet();
            } else if (text.isWord("house")) {
                readHouse();
            } else {
                fail(text.start, SYNTAX);
            }
        }

        void readNodes() {
            if (plan.streetCount > 0 || plan.houseCount > 0) {
                fail(text.start, SYNTAX);
            }
            takeOnce(NODES);
            plan.nodeCount = readNumber(2, MAX_NODES);
        }

        void readStreet() {
            int street = plan.streetCount;
            if (street >= MAX_STREETS) {
                fail(text.start, TOO_MANY);
                return;
            }
            text.advance();
            int a = readNumber(0, plan.nodeCount - 1);
            int offset = text.start;
            int b = readNumber(0, plan.nodeCount - 1);
            if (b == a || plan.joins(a, b)) {
                fail(offset, REPEATED);
            }
            plan.streetA[street] = a;
            plan.streetB[street] = b;
            plan.streetLength[street] = readNumber(1, 99);
            readGate(street);
            plan.streetCount++;
        }

        void readGate(int street) {
            state.gateFrom[street] = 0;
            state.gateTo[street] = NO_GATE;
            if (text.isWord("gate")) {
                text.advance();
                state.gateFrom[street] = readNumber(0, LAST_MINUTE);
                state.gateTo[street] = readNumber(state.gateFrom[street] + 1, DAY_END);
            }
        }

        void readHouse() {
            int house = plan.houseCount;
            if (house >= MAX_HOUSES) {
                fail(text.start, TOO_MANY);
                return;
            }
            text.advance();
            plan.houseNode[house] = readNumber(1, plan.nodeCount - 1);
            plan.houseWalk[house] = readNumber(0, 50);
            state.keep[house] = readNumber(0, MAX_KEEP);
            for (int weekday = 0; weekday < WEEKDAYS; weekday++) {
                state.orders[house * WEEKDAYS + weekday] = readNumber(0, MAX_ORDER);
            }
            plan.houseCount++;
        }

        void takeOnce(int statement) {
            if ((seen & statement) != 0) {
                fail(text.start, REPEATED);
            }
            seen |= statement;
            text.advance();
        }

        /** After an error the answer is low, so that the rest of the statement runs through harmlessly. */
        int readNumber(int low, int high) {
            if (text.kind != Text.NUMBER) {
                fail(text.start, SYNTAX);
                return low;
            }
            int number = text.value();
            if (number < low || number > high) {
                fail(text.start, RANGE);
                return low;
            }
            text.advance();
            return number;
        }

        void readSemicolon() {
            if (text.kind != Text.SEMICOLON) {
                fail(text.start, SYNTAX);
            }
            text.advance();
        }

        void fail(int offset, int kind) {
            if (error == NO_ERROR) {
                error = 8 * offset + kind;
            }
        }
    }

    /** What the orders, the skips and the current day come to. */
    private static final class Today {
        final Plan plan;
        final State state;

        Today(Plan plan, State state) {
            this.plan = plan;
            this.state = state;
        }

        int demandOf(int house) {
            if (state.isSkipped(house)) {
                return 0;
            }
            return state.orders[house * WEEKDAYS + state.day % WEEKDAYS];
        }

        int demandAtNode(int node) {
            int sum = 0;
            for (int house = 0; house < plan.houseCount; house++) {
                if (plan.houseNode[house] == node) {
                    sum += demandOf(house);
                }
            }
            return sum;
        }

        int sumOfDemands() {
            int sum = 0;
            for (int house = 0; house < plan.houseCount; house++) {
                sum += demandOf(house);
            }
            return sum;
        }

        int stopSet() {
            int set = 0;
            for (int house = 0; house < plan.houseCount; house++) {
                if (demandOf(house) > 0) {
                    set |= 1 << plan.houseNode[house];
                }
            }
            return set;
        }

        int visitMinutes(int house) {
            return 2 * plan.houseWalk[house] + 1;
        }
    }

    /** Earliest arrivals, and the latest departures that are still in time. */
    private static final class Network {
        final Plan plan;
        final State state;
        final int[] arrivals = new int[MAX_NODES];
        final int[] departures = new int[MAX_NODES];

        Network(Plan plan, State state) {
            this.plan = plan;
            this.state = state;
        }

        /** A row, used again by the next call, with NEVER where there is no arrival. */
        int[] arrivalsFrom(int node, int minute) {
            Arrays.fill(arrivals, NEVER);
            arrivals[node] = minute;
            sweepStreets(false);
            return arrivals;
        }

        /** No best way has as many streets as there are nodes, so MAX_NODES sweeps find them all. */
        void sweepStreets(boolean back) {
            boolean better = true;
            for (int sweep = 0; sweep < MAX_NODES && better; sweep++) {
                better = false;
                for (int street = 0; street < plan.streetCount; street++) {
                    int a = plan.streetA[street];
                    int b = plan.streetB[street];
                    boolean there = back ? improveDeparture(street, a, b) : improveArrival(street, a, b);
                    boolean here = back ? improveDeparture(street, b, a) : improveArrival(street, b, a);
                    better = better || there || here;
                }
            }
        }

        boolean improveArrival(int street, int from, int to) {
            int left = arrivals[from];
            int gateTo = state.gateTo[street];
            if (left == NEVER || gateTo != NO_GATE && left >= gateTo) {
                return false;
            }
            int gateFrom = state.gateFrom[street];
            int arrived = (left < gateFrom ? gateFrom : left) + plan.streetLength[street];
            if (arrived >= arrivals[to]) {
                return false;
            }
            arrivals[to] = arrived;
            return true;
        }

        /** A row, used again by the next call, with TOO_LATE where one cannot be at the node by that minute. */
        int[] departuresTo(int node, int minute) {
            Arrays.fill(departures, TOO_LATE);
            departures[node] = minute;
            sweepStreets(true);
            return departures;
        }

        boolean improveDeparture(int street, int from, int to) {
            int left = departures[to] - plan.streetLength[street];
            if (left < state.gateFrom[street]) {
                return false;
            }
            int gateTo = state.gateTo[street];
            if (gateTo != NO_GATE && left >= gateTo) {
                left = gateTo - 1;
            }
            if (left <= departures[from]) {
                return false;
            }
            departures[from] = left;
            return true;
        }
    }

    /** A sequence of stops. */
    private static final class Route {
        final int[] nodes = new int[MAX_NODES];
        int count;

        void clear() {
            count = 0;
        }

        void add(int node) {
            if (count < MAX_NODES) {
                nodes[count] = node;
                count++;
            }
        }

        void fillByNumber(int set) {
            clear();
            for (int node = 0; node < MAX_NODES; node++) {
                if ((set & 1 << node) != 0) {
                    add(node);
                }
            }
        }

        void copyFrom(Route other) {
            count = other.count;
            System.arraycopy(other.nodes, 0, nodes, 0, MAX_NODES);
        }

        int stopAt(int position) {
            return position >= 0 && position < count ? nodes[position] : ABSENT;
        }
    }

    /**
     * The fastest order, by tables over the sets of stops that are done and the last of them.
     * Who is somewhere earlier is never later afterwards (one may wait), so the earliest minute of each
     * set and last stop is enough for the finish. The first order by its nodes may however come to a
     * stop later than that and wait at a gate; so it is found with the latest minutes that still do.
     */
    private static final class Fastest {
        static final int SETS = 1 << (MAX_NODES - 1);

        final Plan plan;
        final Today today;
        final Network network;
        final Route route = new Route();
        final int[] minutesAt = new int[MAX_NODES];
        final int[] earliest = new int[SETS * MAX_NODES];
        final int[] latest = new int[SETS * MAX_NODES];
        int all;
        int finish = NEVER;
        boolean known;

        Fastest(Plan plan, Today today, Network network) {
            this.plan = plan;
            this.today = today;
            this.network = network;
        }

        void forget() {
            known = false;
        }

        /** Sets the finish, NEVER if there is no fastest order, and the route, empty then. */
        void find() {
            if (known) {
                return;
            }
            known = true;
            finish = NEVER;
            route.clear();
            if (today.sumOfDemands() > plan.capacity) {
                return;
            }
            all = today.stopSet();
            sumVisits();
            findEarliest();
            if (finish != NEVER) {
                findLatest();
                walk();
            }
        }

        void sumVisits() {
            Arrays.fill(minutesAt, 0);
            for (int house = 0; house < plan.houseCount; house++) {
                if (today.demandOf(house) > 0) {
                    minutesAt[plan.houseNode[house]] += today.visitMinutes(house);
                }
            }
        }

        /** Bit 0, the depot's, is in no set of stops. */
        static int place(int set, int last) {
            return (set >> 1) * MAX_NODES + last;
        }

        /** Nothing done means that the cart is at the depot; else it is at a stop that is done. */
        static boolean isLast(int set, int node) {
            return set == 0 ? node == DEPOT : (set & 1 << node) != 0;
        }

        boolean isPart(int set) {
            return (set & ~all) == 0;
        }

        void findEarliest() {
            Arrays.fill(earliest, NEVER);
            earliest[place(0, DEPOT)] = plan.start;
            for (int set = 0; set <= all; set += 2) {
                if (!isPart(set)) {
                    continue;
                }
                for (int node = 0; node < plan.nodeCount; node++) {
                    if (isLast(set, node) && earliest[place(set, node)] != NEVER) {
                        driveOn(set, node);
                    }
                }
            }
        }

        void driveOn(int set, int node) {
            int[] arrivals = network.arrivalsFrom(node, earliest[place(set, node)]);
            if (set == all) {
                finish = Math.min(finish, arrivals[DEPOT]);
                return;
            }
            for (int next = 1; next < plan.nodeCount; next++) {
                if ((all & ~set & 1 << next) != 0 && arrivals[next] != NEVER) {
                    int to = place(set | 1 << next, next);
                    earliest[to] = Math.min(earliest[to], arrivals[next] + minutesAt[next]);
                }
            }
        }

        void findLatest() {
            Arrays.fill(latest, TOO_LATE);
            allow(all, network.departuresTo(DEPOT, finish));
            for (int set = all; set > 0; set -= 2) {
                if (!isPart(set)) {
                    continue;
                }
                for (int node = 1; node < plan.nodeCount; node++) {
                    int at = place(set, node);
                    // Where even the earliest is too late, no order in time comes through.
                    if (isLast(set, node) && earliest[at] <= latest[at]) {
                        allow(set & ~(1 << node), network.departuresTo(node, latest[at] - minutesAt[node]));
                    }
                }
            }
        }

        void allow(int set, int[] departures) {
            for (int node = 0; node < plan.nodeCount; node++) {
                if (isLast(set, node)) {
                    int at = place(set, node);
                    latest[at] = Math.max(latest[at], departures[node]);
                }
            }
        }

        void walk() {
            int set = 0;
            int node = DEPOT;
            int minute = plan.start;
            for (int step = 0; step < MAX_NODES && set != all; step++) {
                int[] arrivals = network.arrivalsFrom(node, minute);
                node = firstInTime(set, arrivals);
                minute = arrivals[node] + minutesAt[node];
                set |= 1 << node;
                route.add(node);
            }
        }

        int firstInTime(int set, int[] arrivals) {
            for (int next = 1; next < plan.nodeCount; next++) {
                boolean open = (all & ~set & 1 << next) != 0 && arrivals[next] != NEVER;
                if (open && arrivals[next] + minutesAt[next] <= latest[place(set | 1 << next, next)]) {
                    return next;
                }
            }
            return DEPOT;
        }
    }

    /** Drives a round and writes its log; the accounts stay as they are. */
    private static final class Cart {
        final Plan plan;
        final State state;
        final Today today;
        final Network network;
        final Log log = new Log();
        int node;
        int minute;
        int full;
        int empty;
        int waiting;
        boolean ended;

        Cart(Plan plan, State state, Today today, Network network) {
            this.plan = plan;
            this.state = state;
            this.today = today;
            this.network = network;
        }

        void travel(Route route) {
            log.clear();
            node = DEPOT;
            minute = plan.start;
            waiting = today.sumOfDemands();
            full = Math.min(waiting, plan.capacity);
            empty = 0;
            ended = false;
            for (int i = 0; i < route.count && !ended; i++) {
                int stop = route.nodes[i];
                if (driveTo(stop)) {
                    serveStop(stop);
                } else {
                    waiting -= today.demandAtNode(stop);
                }
            }
            if (!ended) {
                driveTo(DEPOT);
            }
            log.finish = node == DEPOT ? minute : ABSENT;
        }

        boolean driveTo(int to) {
            int arrived = network.arrivalsFrom(node, minute)[to];
            if (arrived == NEVER) {
                return false;
            }
            node = to;
            minute = arrived;
            return true;
        }

        void serveStop(int stop) {
            for (int house = 0; house < plan.houseCount && !ended; house++) {
                int wanted = today.demandOf(house);
                if (plan.houseNode[house] != stop || wanted == 0) {
                    continue;
                }
                if (full < wanted && !reload(stop)) {
                    ended = true;
                } else {
                    serveHouse(house, wanted);
                }
            }
        }

        boolean reload(int stop) {
            if (!driveTo(DEPOT)) {
                return false;
            }
            empty = 0;
            full = Math.min(waiting, plan.capacity);
            minute += RELOAD_MINUTES;
            log.reloads++;
            return driveTo(stop);
        }

        void serveHouse(int house, int wanted) {
            minute += today.visitMinutes(house);
            full -= wanted;
            waiting -= wanted;
            int spare = Math.max(state.bottles[house] - state.keep[house], 0);
            int room = plan.capacity - full - empty;
            int taken = Math.min(spare, room);
            empty += taken;
            log.add(house, minute, taken);
        }
    }

    /** The states before the latest changes, in a ring. */
    private static final class History {
        final State[] past = new State[UNDO_LIMIT];
        int next;
        int count;

        History() {
            for (int i = 0; i < UNDO_LIMIT; i++) {
                past[i] = new State();
            }
        }

        void clear() {
            count = 0;
        }

        void remember(State state) {
            past[next].copyFrom(state);
            next = (next + 1) % UNDO_LIMIT;
            count = Math.min(count + 1, UNDO_LIMIT);
        }

        void recall(State state) {
            if (count == 0) {
                return;
            }
            count--;
            next = (next + UNDO_LIMIT - 1) % UNDO_LIMIT;
            state.copyFrom(past[next]);
        }
    }
}
