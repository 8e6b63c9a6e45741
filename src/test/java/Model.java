import java.util.ArrayDeque;
import java.util.ArrayList;
import java.util.Arrays;
import java.util.Deque;
import java.util.HashMap;
import java.util.List;
import java.util.Map;

/**
 * The document's words put into code as literally as can be, without regard to speed: minutes are walked
 * one by one, and every order of the stops is tried. ModelTest holds the class against it.
 */
final class Model {
    static final int NONE = Integer.MAX_VALUE;

    /** What changes and snapshots are about. */
    static final class Data {
        int day = 0;
        int[][] orders = new int[12][7];
        int[] keep = new int[12];
        int[][] gate = new int[18][];
        boolean[] skipped = new boolean[12];
        int[] bottles = new int[12];
        int[] delivered = new int[12];
        int[] returned = new int[12];
        int[] broken = new int[12];
        int[][] habit = new int[10][10];
        Trip latest = null;

        Data copy() {
            Data copy = new Data();
            copy.day = day;
            for (int i = 0; i < 12; i++) {
                copy.orders[i] = orders[i].clone();
            }
            copy.keep = keep.clone();
            for (int i = 0; i < 18; i++) {
                copy.gate[i] = gate[i] == null ? null : gate[i].clone();
            }
            copy.skipped = skipped.clone();
            copy.bottles = bottles.clone();
            copy.delivered = delivered.clone();
            copy.returned = returned.clone();
            copy.broken = broken.clone();
            for (int i = 0; i < 10; i++) {
                copy.habit[i] = habit[i].clone();
            }
            copy.latest = latest;
            return copy;
        }
    }

    /** A round as it went. */
    static final class Trip {
        Integer finish = null;
        int reloads = 0;
        List<int[]> visits = new ArrayList<>();
    }

    static final class SyntaxError extends Exception {
        private static final long serialVersionUID = 1L;
        final int offset;
        final int kind;

        SyntaxError(int offset, int kind) {
            this.offset = offset;
            this.kind = kind;
        }
    }

    /** What a text says. */
    static final class Town {
        int nodes = 2;
        int capacity = 60;
        int start = 300;
        int price = 5;
        int deposit = 10;
        List<int[]> streets = new ArrayList<>();
        List<int[]> houses = new ArrayList<>();
        Data data = new Data();
    }

    Town town = new Town();
    Data data = new Data();
    String buffer = "";
    final Deque<Data> undo = new ArrayDeque<>();
    final Data[] slots = new Data[2];
    private final Map<String, int[]> arrivals = new HashMap<>();

    // ---- the text

    int append(int... words) {
        if (buffer.length() + 20 > 900) {
            return -1;
        }
        StringBuilder more = new StringBuilder(buffer);
        for (int word : words) {
            for (int k = 3; k >= 0; k--) {
                more.append((char) (word >>> 8 * k & 255));
            }
        }
        buffer = more.toString();
        return buffer.length();
    }

    int parse(int length) {
        if (length < 0 || length > buffer.length()) {
            return -1;
        }
        String text = buffer.substring(0, length);
        buffer = "";
        try {
            town = new Reader(text).town();
        } catch (SyntaxError e) {
            return -2 - (8 * e.offset + e.kind);
        }
        data = town.data.copy();
        undo.clear();
        slots[0] = null;
        slots[1] = null;
        arrivals.clear();
        return town.houses.size();
    }

    static final class Reader {
        final List<String> tokens = new ArrayList<>();
        final List<Integer> offsets = new ArrayList<>();
        int at = 0;
        final Town town = new Town();

        Reader(String text) {
            java.util.regex.Matcher m = java.util.regex.Pattern.compile("[ \n]+|[a-z]+|[0-9]+|(?s:.)").matcher(text);
            while (m.find()) {
                if (m.group().charAt(0) != ' ' && m.group().charAt(0) != '\n') {
                    tokens.add(m.group());
                    offsets.add(m.start());
                }
            }
            tokens.add("");
            offsets.add(text.length());
        }

        String token() {
            return tokens.get(at);
        }

        int offset() {
            return offsets.get(at);
        }

        int number(int low, int high) throws SyntaxError {
            if (!token().matches("[0-9]{1,4}")) {
                throw new SyntaxError(offset(), 1);
            }
            int value = Integer.parseInt(token());
            if (value < low || value > high) {
                throw new SyntaxError(offset(), 2);
            }
            at++;
            return value;
        }

        Town town() throws SyntaxError {
            List<String> seen = new ArrayList<>();
            while (!token().isEmpty()) {
                String word = token();
                if (!List.of("nodes", "cart", "start", "price", "street", "house").contains(word)) {
                    throw new SyntaxError(offset(), 1);
                }
                if (word.equals("nodes") && (seen.contains("street") || seen.contains("house"))) {
                    throw new SyntaxError(offset(), 1);
                }
                if (!word.equals("street") && !word.equals("house") && seen.contains(word)) {
                    throw new SyntaxError(offset(), 3);
                }
                if (word.equals("street") && town.streets.size() == 18
                        || word.equals("house") && town.houses.size() == 12) {
                    throw new SyntaxError(offset(), 4);
                }
                seen.add(word);
                at++;
                statement(word);
                if (!token().equals(";")) {
                    throw new SyntaxError(offset(), 1);
                }
                at++;
            }
            return town;
        }

        void statement(String word) throws SyntaxError {
            switch (word) {
                case "nodes":
                    town.nodes = number(2, 10);
                    break;
                case "cart":
                    town.capacity = number(10, 200);
                    break;
                case "start":
                    town.start = number(0, 1439);
                    break;
                case "price":
                    town.price = number(0, 99);
                    town.deposit = number(0, 99);
                    break;
                case "street":
                    street();
                    break;
                default:
                    house();
                    break;
            }
        }

        void street() throws SyntaxError {
            int a = number(0, town.nodes - 1);
            int offset = offset();
            int b = number(0, town.nodes - 1);
            for (int[] other : town.streets) {
                if (Math.min(a, b) == Math.min(other[0], other[1]) && Math.max(a, b) == Math.max(other[0], other[1])) {
                    throw new SyntaxError(offset, 3);
                }
            }
            if (a == b) {
                throw new SyntaxError(offset, 3);
            }
            int length = number(1, 99);
            if (token().equals("gate")) {
                at++;
                int from = number(0, 1439);
                int to = number(from + 1, 1440);
                town.data.gate[town.streets.size()] = new int[] {from, to};
            }
            town.streets.add(new int[] {a, b, length});
        }

        void house() throws SyntaxError {
            int h = town.houses.size();
            int node = number(1, town.nodes - 1);
            int walk = number(0, 50);
            town.data.keep[h] = number(0, 9);
            for (int k = 0; k < 7; k++) {
                town.data.orders[h][k] = number(0, 9);
            }
            town.houses.add(new int[] {node, walk});
        }
    }

    // ---- the network

    boolean house(int h) {
        return h >= 0 && h < town.houses.size();
    }

    boolean street(int s) {
        return s >= 0 && s < town.streets.size();
    }

    boolean node(int n) {
        return n >= 0 && n < town.nodes;
    }

    int houseNode(int h) {
        return house(h) ? town.houses.get(h)[0] : -1;
    }

    int order(int h, int weekday) {
        return house(h) && weekday >= 0 && weekday <= 6 ? data.orders[h][weekday] : -1;
    }

    int isOpen(int s, int minute) {
        if (!street(s) || minute < 0) {
            return -1;
        }
        return data.gate[s] == null || data.gate[s][0] <= minute && minute < data.gate[s][1] ? 1 : 0;
    }

    /** The least minute at which one can be at each node: every minute is looked at, one after the other. */
    int[] reach(int from, int minute) {
        String key = from + " " + minute;
        int[] known = arrivals.get(key);
        if (known != null) {
            return known;
        }
        int end = Math.max(minute, 1440) + 1000;
        int[] there = new int[end + 100];
        there[minute] = 1 << from;
        int[] first = new int[town.nodes];
        Arrays.fill(first, NONE);
        for (int t = minute; t < end; t++) {
            for (int n = 0; n < town.nodes; n++) {
                if ((there[t] >> n & 1) != 0 && first[n] == NONE) {
                    first[n] = t;
                }
            }
            there[t + 1] |= there[t];
            for (int s = 0; s < town.streets.size(); s++) {
                int[] street = town.streets.get(s);
                if (isOpen(s, t) == 1) {
                    there[t + street[2]] |= (there[t] >> street[0] & 1) << street[1];
                    there[t + street[2]] |= (there[t] >> street[1] & 1) << street[0];
                }
            }
            if (there[t] == (1 << town.nodes) - 1) {
                break;
            }
        }
        arrivals.put(key, first);
        return first;
    }

    int arrival(int from, int to, int minute) {
        if (!node(from) || !node(to) || minute < 0 || minute > 9999) {
            return -1;
        }
        int answer = reach(from, minute)[to];
        return answer == NONE ? -2 : answer;
    }

    // ---- today

    int need(int h) {
        return data.skipped[h] ? 0 : data.orders[h][data.day % 7];
    }

    int demand(int h) {
        return house(h) ? need(h) : -1;
    }

    int totalDemand() {
        int sum = 0;
        for (int h = 0; h < town.houses.size(); h++) {
            sum += need(h);
        }
        return sum;
    }

    List<Integer> stopList() {
        List<Integer> list = new ArrayList<>();
        for (int n = 0; n < town.nodes; n++) {
            for (int h = 0; h < town.houses.size(); h++) {
                if (town.houses.get(h)[0] == n && need(h) > 0 && !list.contains(n)) {
                    list.add(n);
                }
            }
        }
        return list;
    }

    int stops() {
        int set = 0;
        for (int n : stopList()) {
            set |= 1 << n;
        }
        return set;
    }

    int habit(int from, int to) {
        return node(from) && node(to) ? data.habit[from][to] : -1;
    }

    List<Integer> horse() {
        List<Integer> left = stopList();
        List<Integer> order = new ArrayList<>();
        int present = 0;
        while (!left.isEmpty()) {
            final int here = present;
            final int[] reach = reach(here, town.start);
            left.sort((x, y) -> {
                if (data.habit[here][x] != data.habit[here][y]) {
                    return data.habit[here][y] - data.habit[here][x];
                }
                return reach[x] != reach[y] ? Integer.compare(reach[x], reach[y]) : x - y;
            });
            present = left.remove(0);
            order.add(present);
        }
        return order;
    }

    int horseStop(int position) {
        if (position < 0) {
            return -1;
        }
        List<Integer> order = horse();
        return position < order.size() ? order.get(position) : -2;
    }

    private int bestFinish;
    private List<Integer> bestOrder;

    /** All orders, in the order of a lexicon; only a better one takes the place of an earlier one. */
    private void tryOrders(List<Integer> done, List<Integer> left, int minute) {
        int present = done.isEmpty() ? 0 : done.get(done.size() - 1);
        int[] reach = reach(present, minute);
        if (left.isEmpty()) {
            if (reach[0] < bestFinish) {
                bestFinish = reach[0];
                bestOrder = new ArrayList<>(done);
            }
            return;
        }
        for (int i = 0; i < left.size(); i++) {
            int next = left.get(i);
            if (reach[next] == NONE) {
                continue;
            }
            int then = reach[next];
            for (int h = 0; h < town.houses.size(); h++) {
                if (town.houses.get(h)[0] == next && need(h) > 0) {
                    then += 2 * town.houses.get(h)[1] + 1;
                }
            }
            if (then >= bestFinish) {
                continue;
            }
            left.remove(i);
            done.add(next);
            tryOrders(done, left, then);
            done.remove(done.size() - 1);
            left.add(i, next);
        }
    }

    /** Null if there is none. */
    List<Integer> fastest() {
        bestFinish = NONE;
        bestOrder = null;
        if (totalDemand() <= town.capacity) {
            tryOrders(new ArrayList<>(), stopList(), town.start);
        }
        return bestOrder;
    }

    int fastestFinish() {
        return fastest() == null ? -2 : bestFinish;
    }

    int fastestStop(int position) {
        if (position < 0) {
            return -1;
        }
        List<Integer> order = fastest();
        return order == null || position >= order.size() ? -2 : order.get(position);
    }

    List<Integer> chosen(int choice) {
        return choice == 0 ? stopList() : choice == 1 ? horse() : fastest();
    }

    int previewFinish(int choice) {
        if (choice < 0 || choice > 2) {
            return -1;
        }
        List<Integer> order = chosen(choice);
        if (order == null) {
            return -2;
        }
        Trip trip = drive(order);
        return trip.finish == null ? -2 : trip.finish;
    }

    // ---- the round

    int sum(List<Integer> houses) {
        int sum = 0;
        for (int h : houses) {
            sum += need(h);
        }
        return sum;
    }

    Trip drive(List<Integer> order) {
        Trip trip = new Trip();
        List<Integer> open = new ArrayList<>();
        for (int h = 0; h < town.houses.size(); h++) {
            if (need(h) > 0) {
                open.add(h);
            }
        }
        int at = 0;
        int minute = town.start;
        int full = Math.min(totalDemand(), town.capacity);
        int empty = 0;
        for (int stop : order) {
            List<Integer> here = new ArrayList<>();
            for (int h : open) {
                if (town.houses.get(h)[0] == stop) {
                    here.add(h);
                }
            }
            int arrived = reach(at, minute)[stop];
            if (arrived == NONE) {
                open.removeAll(here);
                continue;
            }
            at = stop;
            minute = arrived;
            for (int h : here) {
                if (full < need(h)) {
                    int depot = reach(at, minute)[0];
                    if (depot == NONE) {
                        return trip;
                    }
                    empty = 0;
                    full = Math.min(sum(open), town.capacity);
                    trip.reloads++;
                    minute = depot + 10;
                    int back = reach(0, minute)[stop];
                    if (back == NONE) {
                        trip.finish = minute;
                        return trip;
                    }
                    minute = back;
                }
                minute += 2 * town.houses.get(h)[1] + 1;
                full -= need(h);
                int taken = Math.max(0, data.bottles[h] - data.keep[h]);
                taken = Math.min(taken, town.capacity - full - empty);
                empty += taken;
                open.remove(Integer.valueOf(h));
                trip.visits.add(new int[] {h, minute, taken});
            }
        }
        int home = reach(at, minute)[0];
        if (home != NONE) {
            trip.finish = home;
        }
        return trip;
    }

    int carryOut(int choice) {
        if (choice < 0 || choice > 2) {
            return -1;
        }
        List<Integer> order = chosen(choice);
        if (order == null) {
            return -2;
        }
        Trip trip = drive(order);
        change();
        List<Integer> path = new ArrayList<>();
        for (int[] visit : trip.visits) {
            int h = visit[0];
            data.bottles[h] += need(h) - visit[2];
            data.delivered[h] += need(h);
            data.returned[h] += visit[2];
            int n = town.houses.get(h)[0];
            if (path.isEmpty() || path.get(path.size() - 1) != n) {
                path.add(n);
            }
        }
        if (!path.isEmpty()) {
            path.add(0, 0);
            if (trip.finish != null) {
                path.add(0);
            }
            for (int i = 1; i < path.size(); i++) {
                data.habit[path.get(i - 1)][path.get(i)]++;
            }
        }
        data.latest = trip;
        data.day++;
        Arrays.fill(data.skipped, false);
        return trip.visits.size();
    }

    // ---- accounts and records

    int ofHouse(int[] row, int h) {
        return house(h) ? row[h] : -1;
    }

    int bill(int h) {
        return house(h) ? data.delivered[h] * town.price + data.broken[h] * town.deposit : -1;
    }

    int bottlesOut() {
        return Arrays.stream(data.bottles).sum();
    }

    int finish() {
        return data.latest == null || data.latest.finish == null ? -2 : data.latest.finish;
    }

    int visitCount() {
        return data.latest == null ? 0 : data.latest.visits.size();
    }

    int visit(int visit, int what) {
        return visit >= 0 && visit < visitCount() ? data.latest.visits.get(visit)[what] : -1;
    }

    int reloads() {
        return data.latest == null ? 0 : data.latest.reloads;
    }

    // ---- changes

    void change() {
        undo.push(data.copy());
        if (undo.size() > 12) {
            undo.removeLast();
        }
    }

    boolean setSkipped(int h, boolean skip) {
        if (!house(h) || data.skipped[h] == skip) {
            return false;
        }
        change();
        data.skipped[h] = skip;
        return true;
    }

    int breakBottles(int h, int count) {
        if (!house(h) || count < 1 || count > data.bottles[h]) {
            return -1;
        }
        change();
        data.broken[h] += count;
        return data.bottles[h] -= count;
    }

    int setOrder(int h, int weekday, int order) {
        if (order(h, weekday) < 0 || order < 0 || order > 9) {
            return -1;
        }
        change();
        int old = data.orders[h][weekday];
        data.orders[h][weekday] = order;
        return old;
    }

    int setKeep(int h, int keep) {
        if (!house(h) || keep < 0 || keep > 9) {
            return -1;
        }
        change();
        int old = data.keep[h];
        data.keep[h] = keep;
        return old;
    }

    boolean setGate(int s, int from, int to) {
        if (!street(s) || from < 0 || from > 1439 || to <= from || to > 1440) {
            return false;
        }
        change();
        arrivals.clear();
        data.gate[s] = new int[] {from, to};
        return true;
    }

    int undo() {
        if (undo.isEmpty()) {
            return -2;
        }
        data = undo.pop();
        arrivals.clear();
        return undo.size();
    }

    boolean saveSnapshot(int slot) {
        if (slot != 0 && slot != 1) {
            return false;
        }
        slots[slot] = data.copy();
        return true;
    }

    boolean restoreSnapshot(int slot) {
        if (slot != 0 && slot != 1 || slots[slot] == null) {
            return false;
        }
        data = slots[slot].copy();
        undo.clear();
        arrivals.clear();
        return true;
    }
}
